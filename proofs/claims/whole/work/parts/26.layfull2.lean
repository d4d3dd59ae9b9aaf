theorem Lk_tr {m1 m2 m3 : am_Mem} (h1 : Lk m1 m2) (h2 : Lk m2 m3) : Lk m1 m3 := ⟨md_tr h1.1 h2.1, h2.2.1.trans h1.2.1, h2.2.2.trans h1.2.2⟩
theorem Lk.n {m0 m : am_Mem} (h : Lk m0 m) : m 30 2 = m0 30 2 := h.1.2 2 (by omega)
theorem Lk.aw {m0 m : am_Mem} (h : Lk m0 m) : m 30 13 = m0 30 13 := h.1.2 13 (by omega)
theorem nI_ite (c : Prop) {hd : Decidable c} : nI (if c then 1 else 0) = if c then (1 : Int32) else 0 := by split <;> rfl
theorem iz_m1 (s : Nat) : nI s + (-1) = iz ((s : Int) - 1) := by
  rw [iz_nI, show (-1 : Int32) = iz (-1) from rfl, iz_add]; rfl
/-- what the next level finds: the taken bits, and the row to begin with -/
theorem on_next {mem mem' : am_Mem} {n s c : Nat} (h : mem' = (if s + 1 < n then am_set (am_set mem 41 (s + 1) (mem 41 s ||| (if c < 4 then mem 40 (4 * s + c) else 0))) 38 (s + 1) (-1) else am_set mem 41 (s + 1) (mem 41 s ||| (if c < 4 then mem 40 (4 * s + c) else 0)))) :
    Lk mem mem' ∧ (∀ i, i ≤ s → mem' 38 i = mem 38 i) ∧ (∀ j, j ≤ s → mem' 41 j = mem 41 j) ∧ mem' 41 (s + 1) = (mem 41 s ||| (if c < 4 then mem 40 (4 * s + c) else 0)) ∧ (s + 1 < n → mem' 38 (s + 1) = -1) ∧ mem' 30 = mem 30 ∧ mem' 42 = mem 42 ∧ mem' 39 = mem 39 := by
  by_cases hn : s + 1 < n
  · rw [if_pos hn] at h
    subst h
    refine ⟨Lk_set (Lk_set (Lk_rf mem) (by omega) (by omega)) (by omega) (by omega), fun i hi => ?_, fun j hj => ?_, ?_, fun _ => am_set_eq _ _ _ _, ?_, ?_, ?_⟩
    · rw [am_set_nj _ _ (by omega), am_set_na _ _ (by decide)]
    · rw [am_set_na _ _ (by decide), am_set_nj _ _ (by omega)]
    · rw [am_set_na _ _ (by decide), am_set_eq]
    · rw [am_set_na _ _ (by decide), am_set_na _ _ (by decide)]
    · rw [am_set_na _ _ (by decide), am_set_na _ _ (by decide)]
    · rw [am_set_na _ _ (by decide), am_set_na _ _ (by decide)]
  · rw [if_neg hn] at h
    subst h
    refine ⟨Lk_set (Lk_rf mem) (by omega) (by omega), fun i hi => ?_, fun j hj => ?_, ?_, fun q => absurd q hn, ?_, ?_, ?_⟩
    · rw [am_set_na _ _ (by decide)]
    · rw [am_set_nj _ _ (by omega)]
    · rw [am_set_eq]
    · rw [am_set_na _ _ (by decide)]
    · rw [am_set_na _ _ (by decide)]
    · rw [am_set_na _ _ (by decide)]
theorem full_A {D : Nat} {Q : Option Value → am_Mem → Prop} {m0 : am_Mem} {n : Nat} {K : Nat → Nat → Bool} (hn : n ≤ 8) (hN : m0 30 2 = nI n) (haw : m0 30 13 = 0) (hK : ∀ k, k < 4 * n → ∀ b, b < 32 → bt (m0 40 k) b = K k b) :
    ∀ (r s : Nat) (mem : am_Mem) (row : Nat → Nat) (o : Nat → Bool), s + r = n → Lk m0 mem → (∀ i, i < s → row i < 4 ∧ mem 38 i = nI (row i)) → (s < n → mem 38 s = -1) → (∀ k, k < 32 → o k = (bt (m0 30 16) k && !bt (mem 41 s) k)) →
      (∀ mem', Lk m0 mem' → pre s mem mem' → mem' 30 19 = mem 30 19 + nI (cnt K r s o) → (∀ k, k < 4 * n → mem' 42 k = mem 42 k + nI (inc K row r s o k)) → am_J m7_layFull (D + 1) 46 [.ref 30, .int 0, .int (iz ((s : Int) - 1)), .null] [] mem' Q) →
      am_J m7_layFull (D + 1) 46 [.ref 30, .int 0, .int (nI s), .null] [] mem Q := by
  intro r
  induction r with
  | zero =>
    intro s mem row o hs hL hrow _ ho k
    have : s = n := by omega
    subst this
    refine sg7_layFull_46 ⟨fun q => absurd q (nI_pos (by omega)), fun _ => ⟨fun _ => sg7_layFull_61 ⟨fun q => absurd (by rw [hL.n, hN]) q, fun _ => ?_⟩, fun q => absurd rfl q⟩⟩
    generalize hm1 : am_set mem 30 19 (mem 30 19 + (1 : Int32)) = m1
    have hL1 : Lk mem m1 := hm1 ▸ Lk_fld (Lk_rf mem) (by omega) (by omega)
    have h38 : m1 38 = mem 38 := by rw [← hm1, am_set_na _ _ (by decide)]
    have h41 : m1 41 = mem 41 := by rw [← hm1, am_set_na _ _ (by decide)]
    have h42 : m1 42 = mem 42 := by rw [← hm1, am_set_na _ _ (by decide)]
    have hf : m1 30 19 = mem 30 19 + 1 := by rw [← hm1, am_set_eq]
    refine layFull_81 (m0 := m1) (n := s) (w := mem 42) (row := row) hn (by rw [hL1.n, hL.n, hN]) (fun i hi => ⟨by have := (hrow i hi).1; omega, by rw [h38]; exact (hrow i hi).2⟩) (fun k _ => by rw [h42]) (fun mem' g1 g2 g3 g4 g5 => ?_) s 0 m1 (by omega) (Lk_rf m1) rfl rfl rfl (fun k _ => by rw [h42]; simp)
    rw [iz_m1]
    refine k mem' (Lk_tr hL (Lk_tr hL1 g1)) ⟨fun i _ => by rw [g2, h38], fun j _ => by rw [g3, h41]⟩ (by rw [g4, hf]; rfl) (fun k hk => ?_)
    rw [g5 k hk]
    have hk4 : k / 4 < s := by omega
    unfold inc
    rw [if_pos hk4]
    simp only [cnt]
    rw [nI_ite]
  | succ r ih =>
    intro s mem row o hs hL hrow hrs ho k
    have hsn : s < n := by omega
    -- the CORNERS of SITE s, from c on
    have loop : ∀ (t c : Nat) (mem : am_Mem), c + t = 4 → Lk m0 mem → (∀ i, i < s → row i < 4 ∧ mem 38 i = nI (row i)) → mem 38 s = iz ((c : Int) - 1) → (∀ k, k < 32 → o k = (bt (m0 30 16) k && !bt (mem 41 s) k)) →
        (∀ mem', Lk m0 mem' → pre s mem mem' → mem' 30 19 = mem 30 19 + nI (tlN (fun c => if o (4 * s + c) = true then cnt K r (s + 1) (mn K (4 * s + c) o) else 0) t c) → (∀ k, k < 4 * n → mem' 42 k = mem 42 k + nI (tlN (fun c => if o (4 * s + c) = true then inc K (rs row s c) r (s + 1) (mn K (4 * s + c) o) k else 0) t c)) → am_J m7_layFull (D + 1) 46 [.ref 30, .int 0, .int (iz ((s : Int) - 1)), .null] [] mem' Q) →
        am_J m7_layFull (D + 1) 46 [.ref 30, .int 0, .int (nI s), .null] [] mem Q := by
      intro t
      induction t using Nat.strongRecOn with
      | ind t iht =>
        intro c mem hct hL hrow hrs ho k
        have e8 : vp_in (nI s) 8 := vp_in_nI (by omega) (by omega)
        have hb : bt (mem 30 13) s = false := by rw [hL.aw, haw, b_0]
        refine sg7_layFull_46 ⟨fun q => absurd q (nI_pos (by omega)), fun _ => ⟨fun _ => sg7_layFull_61 ⟨fun _ => ⟨fun _ => ?_, fun q => absurd q ?_⟩, fun q => absurd q ?_⟩, fun q => absurd rfl q⟩⟩
        rotate_left
        · rw [bit_s _ s (by omega), hb]; decide
        · rw [hL.n, hN, nI_eq (by omega) (by omega)]; omega
        have hf : ∀ c, c < 4 → (fun c => o (4 * s + c)) c = (bt (mem 30 16) (4 * s + c) && !bt (mem 41 s) (4 * s + c)) := fun c hc => by rw [hL.2.1]; exact ho _ (by omega)
        have hx := nxt_le (fun c => o (4 * s + c)) t c
        have t1 := tl_nxt (f := fun c => o (4 * s + c)) (g := fun c => cnt K r (s + 1) (mn K (4 * s + c) o)) t c
        refine c7_nextCorner (b := true) (s := s) (t := t) (c := c) (by omega) hct hrs hf ?_
        rw [hb]
        generalize hq : nxt (fun c => o (4 * s + c)) t c = c' at *
        by_cases h4 : c' = 4
        · rw [if_pos ⟨h4, rfl, rfl⟩]
          refine sg7_layFull_177 ⟨e8, ?_⟩
          rw [nI_clamp (by omega)]
          refine c7_step_back (by omega) (am_set_eq _ _ _ _) ?_
          refine k _ (Lk_set hL (by omega) (by omega)) ⟨fun i hi => by rw [am_set_nj _ _ (by omega)], fun j _ => by rw [am_set_na _ _ (by decide)]⟩ ?_ (fun kk hkk => ?_)
          · rw [am_set_na _ _ (by decide), t1, if_neg (by omega), nI_0]; simp
          · have t2 := tl_nxt (f := fun c => o (4 * s + c)) (g := fun c => inc K (rs row s c) r (s + 1) (mn K (4 * s + c) o) kk) t c
            rw [hq] at t2
            rw [am_set_na _ _ (by decide), t2, if_neg (by omega), nI_0]; simp
        · rw [if_neg (fun w => h4 w.1)]
          refine sg7_layFull_177 ⟨e8, ?_⟩
          rw [nI_clamp (by omega)]
          generalize hm1 : am_set mem 38 s (nI c') = m1
          have hL1 : Lk m0 m1 := hm1 ▸ Lk_set hL (by omega) (by omega)
          have r1 : m1 38 s = nI c' := by rw [← hm1, am_set_eq]
          have r2 : ∀ i, i ≠ s → m1 38 i = mem 38 i := fun i hi => by rw [← hm1, am_set_nj _ _ hi]
          have r3 : ∀ a, a ≠ 38 → m1 a = mem a := fun a ha => by rw [← hm1, am_set_na _ _ ha]
          have hoc : o (4 * s + c') = true := by
            have := nxt_lt (f := fun c => o (4 * s + c)) (t := t) (c := c) (by rw [hq]; omega)
            rw [hq] at this; exact this
          refine c7_step_on hsn hn (by rw [hL1.n, hN]) (by omega) r1 (fun m2 hm2 => ?_)
          obtain ⟨n1, n2, n3, n4, n5, n6, n7, -⟩ := on_next hm2
          have hL2 : Lk m0 m2 := Lk_tr hL1 n1
          refine ih (s + 1) m2 (rs row s c') (mn K (4 * s + c') o) (by omega) hL2 (fun i hi => ?_) n5 (fun kk hkk => ?_) (fun m3 g1 g2 g3 g4 => ?_)
          · by_cases his : i = s
            · subst his
              refine ⟨by simp [rs]; omega, ?_⟩
              rw [n2 i (by omega), r1]; simp [rs]
            · refine ⟨by simp [rs, his]; exact (hrow i (by omega)).1, ?_⟩
              rw [n2 i (by omega), r2 i his, (hrow i (by omega)).2]; simp [rs, his]
          · rw [n4, b_or, if_pos (by omega), r3 41 (by decide), hL1.2.2]
            simp only [mn]
            rw [ho kk hkk, hK _ (by omega) kk hkk]
            cases bt (m0 30 16) kk <;> cases bt (mem 41 s) kk <;> cases K (4 * s + c') kk <;> rfl
          · rw [show (((s + 1 : Nat) : Int) - 1) = (s : Int) by omega, ← iz_nI]
            refine iht (c + t - c' - 1) (by omega) (c' + 1) m3 (by omega) g1 (fun i hi => ?_) ?_ (fun kk hkk => ?_) (fun m4 l1 l2 l3 l4 => ?_)
            · refine ⟨(hrow i hi).1, ?_⟩
              rw [g2.1 i (by omega), n2 i (by omega), r2 i (by omega)]; exact (hrow i hi).2
            · rw [g2.1 s (by omega), n2 s (by omega), r1, iz_nI]
              congr 1; omega
            · rw [g2.2 s (by omega), n3 s (by omega), r3 41 (by decide)]; exact ho kk hkk
            · refine k m4 l1 ⟨fun i hi => ?_, fun j hj => ?_⟩ ?_ (fun kk hkk => ?_)
              · rw [l2.1 i hi, g2.1 i (by omega), n2 i (by omega), r2 i (by omega)]
              · rw [l2.2 j hj, g2.2 j (by omega), n3 j (by omega), r3 41 (by decide)]
              · rw [l3, g3, n6, r3 30 (by decide), t1, if_pos (by omega), Int32.add_assoc, nI_add]
              · have t2 := tl_nxt (f := fun c => o (4 * s + c)) (g := fun c => inc K (rs row s c) r (s + 1) (mn K (4 * s + c) o) kk) t c
                rw [hq] at t2
                rw [l4 kk hkk, g4 kk hkk, n7, r3 42 (by decide), t2, if_pos (by omega), Int32.add_assoc, nI_add]
    refine loop 4 0 mem (by omega) hL hrow (by rw [hrs hsn]; rfl) ho (fun mem' g1 g2 g3 g4 => k mem' g1 g2 ?_ (fun kk hkk => ?_))
    · rw [g3, tl_sum]; rfl
    · rw [g4 kk hkk, ← inc_step]
