def tlA (f : Nat → Bool) : Nat → Nat → Bool
  | 0, _ => false
  | t + 1, c => f c || tlA f t (c + 1)
theorem tlA_any (f : Nat → Bool) : tlA f 4 0 = (List.range 4).any f := by
  show (f 0 || (f 1 || (f 2 || (f 3 || false)))) = (List.range 4).any f
  simp [List.range_succ]
theorem tlA_nxt {f g : Nat → Bool} : ∀ (t c : Nat), tlA (fun c => f c && g c) t c = (if nxt f t c < c + t then g (nxt f t c) || tlA (fun c => f c && g c) (c + t - nxt f t c - 1) (nxt f t c + 1) else false) := by
  intro t
  induction t with
  | zero => intro c; simp [tlA, nxt]
  | succ t ih =>
    intro c
    simp only [tlA, nxt]
    by_cases h : f c = true
    · simp only [h, if_true, Bool.true_and]
      rw [if_pos (by omega), show c + (t + 1) - c - 1 = t by omega]
    · simp only [h, if_false, Bool.false_eq_true]
      rw [ih (c + 1), show c + 1 + t = c + (t + 1) by omega]
      simp [h]
theorem found_187 {D : Nat} {Q : Option Value → am_Mem → Prop} {mem : am_Mem} {v : Int32} (h1 : mem 30 19 = 1) (k : am_J m7_layFull (D + 1) 187 [.ref 30, .null, .null, .null] [] mem Q) : am_J m7_layFull (D + 1) 46 [.ref 30, .int 1, .int v, .null] [] mem Q :=
  sg7_layFull_46 ⟨fun _ => k, fun _ => ⟨fun q => absurd q (by decide), fun _ => ⟨fun _ => k, fun q => absurd (by rw [h1]; decide) q⟩⟩⟩
theorem full_B {D : Nat} {Q : Option Value → am_Mem → Prop} {m0 : am_Mem} {n : Nat} {K : Nat → Nat → Bool} {aw : Int32} (hn : n ≤ 8) (hN : m0 30 2 = nI n) (haw : m0 30 13 = aw) (hK : ∀ k, k < 4 * n → ∀ b, b < 32 → bt (m0 40 k) b = K k b) :
    ∀ (r s : Nat) (mem : am_Mem) (o : Nat → Bool), s + r = n → Lk m0 mem → (∀ i, i < s → ∃ c, c ≤ 4 ∧ mem 38 i = nI c) → (s < n → mem 38 s = -1) → (∀ k, k < 32 → o k = (bt (m0 30 16) k && !bt (mem 41 s) k)) → mem 30 19 = 0 →
      (∀ mem', Lk m0 mem' → mem' 30 19 = 1 → ful K (fun i => !bt aw i) r s o = true → am_J m7_layFull (D + 1) 187 [.ref 30, .null, .null, .null] [] mem' Q) →
      (∀ mem', Lk m0 mem' → pre s mem mem' → mem' 30 19 = 0 → ful K (fun i => !bt aw i) r s o = false → am_J m7_layFull (D + 1) 46 [.ref 30, .int 1, .int (iz ((s : Int) - 1)), .null] [] mem' Q) →
      am_J m7_layFull (D + 1) 46 [.ref 30, .int 1, .int (nI s), .null] [] mem Q := by
  intro r
  induction r with
  | zero =>
    intro s mem o hs hL hrow _ ho hz kf _
    have : s = n := by omega
    subst this
    refine sg7_layFull_46 ⟨fun q => absurd q (nI_pos (by omega)), fun _ => ⟨fun q => absurd q (by decide), fun _ => ⟨fun q => absurd q (by rw [hz]; decide), fun _ => sg7_layFull_61 ⟨fun q => absurd (by rw [hL.n, hN]) q, fun _ => ?_⟩⟩⟩⟩
    generalize hm1 : am_set mem 30 19 (mem 30 19 + (1 : Int32)) = m1
    have hL1 : Lk mem m1 := hm1 ▸ Lk_fld (Lk_rf mem) (by omega) (by omega)
    have h38 : m1 38 = mem 38 := by rw [← hm1, am_set_na _ _ (by decide)]
    have hf : m1 30 19 = 1 := by rw [← hm1, am_set_eq, hz]; rfl
    have hex : ∀ i, ∃ c, i < s → c ≤ 4 ∧ mem 38 i = nI c := fun i => by
      by_cases hi : i < s
      · obtain ⟨c, h1, h2⟩ := hrow i hi; exact ⟨c, fun _ => ⟨h1, h2⟩⟩
      · exact ⟨0, fun q => absurd q hi⟩
    refine layFull_81 (m0 := m1) (n := s) (w := m1 42) (row := fun i => Classical.choose (hex i)) hn (by rw [hL1.n, hL.n, hN]) (fun i hi => ⟨(Classical.choose_spec (hex i) hi).1, by rw [h38]; exact (Classical.choose_spec (hex i) hi).2⟩) (fun k _ => rfl) (fun mem' g1 g2 g3 g4 g5 => ?_) s 0 m1 (by omega) (Lk_rf m1) rfl rfl rfl (fun k _ => by simp)
    exact found_187 (by rw [g4, hf]) (kf mem' (Lk_tr hL (Lk_tr hL1 g1)) (by rw [g4, hf]) rfl)
  | succ r ih =>
    intro s mem o hs hL hrow hrs ho hz kf kn
    have hsn : s < n := by omega
    have e8 : vp_in (nI s) 8 := vp_in_nI (by omega) (by omega)
    have cs : (nI s).toNatClampNeg = s := nI_clamp (by omega)
    have ne : ∀ m, Lk m0 m → ¬ nI s = m 30 2 := fun m h => by rw [h.n, hN, nI_eq (by omega) (by omega)]; omega
    by_cases hset : bt aw s = true
    · -- taken away: it has no CORNER, and takes nothing
      have hful : ful K (fun i => !bt aw i) (r + 1) s o = ful K (fun i => !bt aw i) r (s + 1) o := by simp only [ful]; rw [if_neg (by rw [hset]; decide)]
      rw [hful] at kf kn
      have b61 : ∀ m, Lk m0 m → (((m 30 13) >>> (nI s &&& 31)) &&& (1 : Int32)) = 1 := fun m h => by rw [bit_s _ s (by omega), h.aw, haw, hset]; rfl
      refine sg7_layFull_46 ⟨fun q => absurd q (nI_pos (by omega)), fun _ => ⟨fun q => absurd q (by decide), fun _ => ⟨fun q => absurd q (by rw [hz]; decide), fun _ => sg7_layFull_61 ⟨fun _ => ⟨fun q => absurd (b61 mem hL) q, fun _ => ⟨e8, ?_⟩⟩, fun q => absurd q (ne mem hL)⟩⟩⟩⟩
      rw [cs, hrs hsn]
      refine ⟨fun q => absurd q (by decide), fun _ => sg7_layFull_177 ⟨e8, ?_⟩⟩
      rw [cs]
      generalize hm1 : am_set mem 38 s 4 = m1
      have hL1 : Lk m0 m1 := hm1 ▸ Lk_set hL (by omega) (by omega)
      have r1 : m1 38 s = nI 4 := by rw [← hm1, am_set_eq]; rfl
      have r2 : ∀ i, i ≠ s → m1 38 i = mem 38 i := fun i hi => by rw [← hm1, am_set_nj _ _ hi]
      have r3 : ∀ a, a ≠ 38 → m1 a = mem a := fun a ha => by rw [← hm1, am_set_na _ _ ha]
      refine c7_step_on hsn hn (by rw [hL1.n, hN]) (by omega) r1 (fun m2 hm2 => ?_)
      obtain ⟨n1, n2, n3, n4, n5, n6, -, -⟩ := on_next hm2
      refine ih (s + 1) m2 o (by omega) (Lk_tr hL1 n1) (fun i hi => ?_) n5 (fun kk hkk => ?_) (by rw [n6, r3 30 (by decide), hz]) kf (fun m3 g1 g2 g3 g4 => ?_)
      · by_cases his : i = s
        · subst his; exact ⟨4, by omega, by rw [n2 i (by omega), r1]⟩
        · rw [n2 i (by omega), r2 i his]; exact hrow i (by omega)
      · rw [n4, if_neg (by omega), or_0, r3 41 (by decide)]; exact ho kk hkk
      · rw [show (((s + 1 : Nat) : Int) - 1) = (s : Int) by omega, ← iz_nI]
        refine sg7_layFull_46 ⟨fun q => absurd q (nI_pos (by omega)), fun _ => ⟨fun q => absurd q (by decide), fun _ => ⟨fun q => absurd q (by rw [g3]; decide), fun _ => sg7_layFull_61 ⟨fun _ => ⟨fun q => absurd (b61 m3 g1) q, fun _ => ⟨e8, ?_⟩⟩, fun q => absurd q (ne m3 g1)⟩⟩⟩⟩
        rw [cs, g2.1 s (by omega), n2 s (by omega), r1]
        refine ⟨fun _ => sg7_layFull_177 ⟨e8, ?_⟩, fun q => absurd (show (4 : Int32) ≤ nI 4 from Int32.le_refl _) q⟩
        rw [cs]
        refine c7_step_back (by omega) (am_set_eq _ _ _ _) ?_
        refine kn _ (Lk_set g1 (by omega) (by omega)) ⟨fun i hi => ?_, fun j hj => ?_⟩ ?_ g4
        · rw [am_set_nj _ _ (by omega), g2.1 i (by omega), n2 i (by omega), r2 i (by omega)]
        · rw [am_set_na _ _ (by decide), g2.2 j (by omega), n3 j (by omega), r3 41 (by decide)]
        · rw [am_set_na _ _ (by decide), g3]
    · have hset0 : bt aw s = false := Bool.eq_false_iff.mpr hset
      have hful : ful K (fun i => !bt aw i) (r + 1) s o = tlA (fun c => o (4 * s + c) && ful K (fun i => !bt aw i) r (s + 1) (mn K (4 * s + c) o)) 4 0 := by
        rw [tlA_any]; simp only [ful]; rw [if_pos (by rw [hset0]; rfl)]
      have loop : ∀ (t c : Nat) (mem : am_Mem), c + t = 4 → Lk m0 mem → (∀ i, i < s → ∃ c, c ≤ 4 ∧ mem 38 i = nI c) → mem 38 s = iz ((c : Int) - 1) → (∀ k, k < 32 → o k = (bt (m0 30 16) k && !bt (mem 41 s) k)) → mem 30 19 = 0 →
          (∀ mem', Lk m0 mem' → mem' 30 19 = 1 → tlA (fun c => o (4 * s + c) && ful K (fun i => !bt aw i) r (s + 1) (mn K (4 * s + c) o)) t c = true → am_J m7_layFull (D + 1) 187 [.ref 30, .null, .null, .null] [] mem' Q) →
          (∀ mem', Lk m0 mem' → pre s mem mem' → mem' 30 19 = 0 → tlA (fun c => o (4 * s + c) && ful K (fun i => !bt aw i) r (s + 1) (mn K (4 * s + c) o)) t c = false → am_J m7_layFull (D + 1) 46 [.ref 30, .int 1, .int (iz ((s : Int) - 1)), .null] [] mem' Q) →
          am_J m7_layFull (D + 1) 46 [.ref 30, .int 1, .int (nI s), .null] [] mem Q := by
        intro t
        induction t using Nat.strongRecOn with
        | ind t iht =>
          intro c mem hct hL hrow hrs ho hz kf kn
          have hb : bt (mem 30 13) s = false := by rw [hL.aw, haw]; exact hset0
          refine sg7_layFull_46 ⟨fun q => absurd q (nI_pos (by omega)), fun _ => ⟨fun q => absurd q (by decide), fun _ => ⟨fun q => absurd q (by rw [hz]; decide), fun _ => sg7_layFull_61 ⟨fun _ => ⟨fun _ => ?_, fun q => absurd q ?_⟩, fun q => absurd q (ne mem hL)⟩⟩⟩⟩
          rotate_left
          · rw [bit_s _ s (by omega), hb]; decide
          have hf : ∀ c, c < 4 → (fun c => o (4 * s + c)) c = (bt (mem 30 16) (4 * s + c) && !bt (mem 41 s) (4 * s + c)) := fun c hc => by rw [hL.2.1]; exact ho _ (by omega)
          have hx := nxt_le (fun c => o (4 * s + c)) t c
          have t1 := tlA_nxt (f := fun c => o (4 * s + c)) (g := fun c => ful K (fun i => !bt aw i) r (s + 1) (mn K (4 * s + c) o)) t c
          refine c7_nextCorner (b := true) (s := s) (t := t) (c := c) (by omega) hct hrs hf ?_
          rw [hb]
          generalize hq : nxt (fun c => o (4 * s + c)) t c = c' at *
          by_cases h4 : c' = 4
          · rw [if_pos ⟨h4, rfl, rfl⟩]
            refine sg7_layFull_177 ⟨e8, ?_⟩
            rw [cs]
            refine c7_step_back (by omega) (am_set_eq _ _ _ _) ?_
            exact kn _ (Lk_set hL (by omega) (by omega)) ⟨fun i hi => by rw [am_set_nj _ _ (by omega)], fun j _ => by rw [am_set_na _ _ (by decide)]⟩ (by rw [am_set_na _ _ (by decide), hz]) (by rw [t1, if_neg (by omega)])
          · rw [if_neg (fun w => h4 w.1)]
            rw [if_pos (by omega)] at t1
            refine sg7_layFull_177 ⟨e8, ?_⟩
            rw [cs]
            generalize hm1 : am_set mem 38 s (nI c') = m1
            have hL1 : Lk m0 m1 := hm1 ▸ Lk_set hL (by omega) (by omega)
            have r1 : m1 38 s = nI c' := by rw [← hm1, am_set_eq]
            have r2 : ∀ i, i ≠ s → m1 38 i = mem 38 i := fun i hi => by rw [← hm1, am_set_nj _ _ hi]
            have r3 : ∀ a, a ≠ 38 → m1 a = mem a := fun a ha => by rw [← hm1, am_set_na _ _ ha]
            refine c7_step_on hsn hn (by rw [hL1.n, hN]) (by omega) r1 (fun m2 hm2 => ?_)
            obtain ⟨n1, n2, n3, n4, n5, n6, -, -⟩ := on_next hm2
            refine ih (s + 1) m2 (mn K (4 * s + c') o) (by omega) (Lk_tr hL1 n1) (fun i hi => ?_) n5 (fun kk hkk => ?_) (by rw [n6, r3 30 (by decide), hz]) (fun m3 g1 g2 g3 => kf m3 g1 g2 (by rw [t1, g3]; rfl)) (fun m3 g1 g2 g3 g4 => ?_)
            · by_cases his : i = s
              · subst his; exact ⟨c', by omega, by rw [n2 i (by omega), r1]⟩
              · rw [n2 i (by omega), r2 i his]; exact hrow i (by omega)
            · rw [n4, b_or, if_pos (by omega), r3 41 (by decide), hL1.2.2]
              simp only [mn]
              rw [ho kk hkk, hK _ (by omega) kk hkk]
              cases bt (m0 30 16) kk <;> cases bt (mem 41 s) kk <;> cases K (4 * s + c') kk <;> rfl
            · rw [show (((s + 1 : Nat) : Int) - 1) = (s : Int) by omega, ← iz_nI]
              refine iht (c + t - c' - 1) (by omega) (c' + 1) m3 (by omega) g1 (fun i hi => ?_) ?_ (fun kk hkk => ?_) g3 (fun m4 l1 l2 l3 => kf m4 l1 l2 (by rw [t1, l3]; simp)) (fun m4 l1 l2 l3 l4 => kn m4 l1 ⟨fun i hi => ?_, fun j hj => ?_⟩ l3 (by rw [t1, g4, l4]; rfl))
              · rw [g2.1 i (by omega), n2 i (by omega), r2 i (by omega)]; exact hrow i hi
              · rw [g2.1 s (by omega), n2 s (by omega), r1, iz_nI]
                congr 1; omega
              · rw [g2.2 s (by omega), n3 s (by omega), r3 41 (by decide)]; exact ho kk hkk
              · rw [l2.1 i hi, g2.1 i (by omega), n2 i (by omega), r2 i (by omega)]
              · rw [l2.2 j hj, g2.2 j (by omega), n3 j (by omega), r3 41 (by decide)]
      refine loop 4 0 mem (by omega) hL hrow (by rw [hrs hsn]; rfl) ho hz (fun m g1 g2 g3 => kf m g1 g2 (by rw [hful, g3])) (fun m g1 g2 g3 g4 => kn m g1 g2 g3 (by rw [hful, g4]))
/-- withCorner is cleared -/
theorem layFull_11 {D : Nat} {Q : Option Value → am_Mem → Prop} {m0 : am_Mem} {v : Int32}
    (k : ∀ mem, Lk m0 mem → mem 30 19 = m0 30 19 → (∀ j, j < 32 → mem 42 j = 0) → mem 38 0 = -1 → mem 41 0 = 0 → am_J m7_layFull (D + 1) 46 [.ref 30, .int v, .int 0, .null] [] mem Q) :
    ∀ (r i : Nat) (mem : am_Mem), i + r = 32 → Lk m0 mem → mem 30 19 = m0 30 19 → (∀ j, j < i → mem 42 j = 0) → am_J m7_layFull (D + 1) 11 [.ref 30, .int v, .int (nI i), .null] [] mem Q := by
  intro r
  induction r with
  | zero =>
    intro i mem hi hL h19 h42
    have : i = 32 := by omega
    subst this
    refine sg7_layFull_11 ⟨fun _ => ⟨vp_in_nI (n := 0) (by omega) (by omega), vp_in_nI (n := 0) (by omega) (by omega), ?_⟩, fun q => absurd (show (32 : Int32) ≤ nI 32 from Int32.le_refl _) q⟩
    rw [show ((0 : Int32)).toNatClampNeg = 0 from rfl]
    refine k _ (Lk_set (Lk_set hL (by omega) (by omega)) (by omega) (by omega)) ?_ (fun j hj => ?_) ?_ ?_
    · rw [am_set_na _ _ (by decide), am_set_na _ _ (by decide), h19]
    · rw [am_set_na _ _ (by decide), am_set_na _ _ (by decide)]; exact h42 j hj
    · rw [am_set_na _ _ (by decide), am_set_eq]
    · rw [am_set_eq]
  | succ r ih =>
    intro i mem hi hL h19 h42
    refine sg7_layFull_11 ⟨fun q => absurd q ?_, fun _ => ⟨vp_in_nI (by omega) (by omega), ?_⟩⟩
    · rw [show (32 : Int32) = nI 32 from rfl, nI_leI (by omega) (by omega)]; omega
    · rw [nI_1, nI_clamp (by omega)]
      refine ih (i + 1) _ (by omega) (Lk_set hL (by omega) (by omega)) (by rw [am_set_na _ _ (by decide), h19]) (fun j hj => ?_)
      by_cases hji : j = i
      · subst hji; rw [am_set_eq]
      · rw [am_set_nj _ _ hji]; exact h42 j (by omega)
