/-- THE HAND behind a STIR that answered m -/
def aft (hd : Nat → Int) (m : Int) : Nat → Int := if m = -9 then hd else hset hd (m / 10).toNat (m % 10)
theorem aft_n (hd : Nat → Int) : aft hd (-9) = hd := by unfold aft; rw [if_pos rfl]
theorem aft_s (hd : Nat → Int) {s c : Nat} (hc : c < 4) : aft hd (10 * s + c) = hset hd s c := by
  unfold aft
  rw [if_neg (by omega), show ((10 * (s : Int) + c) / 10).toNat = s by omega, show (10 * (s : Int) + c) % 10 = c by omega]
theorem aft_ok {σ : mp_S} {n : Nat} {hd : Nat → Int} (h : hok n hd) : hok n (aft hd (stir σ n hd).2) := by
  rcases (stir_ok σ n hd).2 with ⟨h1, -⟩ | ⟨s, c, hs, hc, h1, -⟩
  · rw [h1, aft_n]; exact h
  · rw [h1, aft_s hd hc]; exact hset_ok h hc
/-- the class's two numbers for what was found -/
def mr (n : Nat) (p : Nat × Int) (v2 v3 : Int32) : Prop := (p.2 = -9 ∧ v2 = -9) ∨ ∃ s c : Nat, s < n ∧ c < 4 ∧ p.2 = 10 * s + c ∧ v2 = nI s ∧ v3 = nI c
theorem mend_38 {D : Nat} {Q : Option Value → am_Mem → Prop} {m0 : am_Mem} {σ : mp_S} {hd : Nat → Int} {s : Nat} (hσ : s_ok σ) (hX : Hx m0 σ) (ho : hok (s_n σ) hd) (hs : s < s_n σ) (h9 : hd s ≠ -9) :
    ∀ (t c : Nat) (p : Nat × Int) (v2 v3 : Int32) (mem : am_Mem), c + t = 4 → mr (s_n σ) p v2 v3 → p.1 ≤ 36 → sm 21 22 m0 mem → (∀ i, i < s_n σ → i ≠ s → mem 21 i = iz (hd i)) →
      (∀ (v2 v3 : Int32) (mem : am_Mem), mr (s_n σ) (tlB (stc σ (s_n σ) hd s) t c p) v2 v3 → (tlB (stc σ (s_n σ) hd s) t c p).1 ≤ 36 → sm 21 22 m0 mem → (∀ i, i < s_n σ → i ≠ s → mem 21 i = iz (hd i)) → am_J m3_mendMost (D + 4) 87 [.ref 20, .int (nI (tlB (stc σ (s_n σ) hd s) t c p).1), .int v2, .int v3, .int (nI s), .int (iz (hd s)), .null, .null] [] mem Q) →
      am_J m3_mendMost (D + 4) 38 [.ref 20, .int (nI p.1), .int v2, .int v3, .int (nI s), .int (iz (hd s)), .int (nI c), .null] [] mem Q := by
  have hn := hσ.1
  have e8 : vp_in (nI s) 8 := vp_in_nI (by omega) (by omega)
  have cs : (nI s).toNatClampNeg = s := nI_clamp (by omega)
  intro t
  induction t with
  | zero =>
    intro c p v2 v3 mem hc hm hp hsm hh k
    have : c = 4 := by omega
    subst this
    exact sg3_mendMost_38 ⟨fun _ => k v2 v3 mem hm hp hsm hh, fun q => absurd (show (4 : Int32) ≤ nI 4 from Int32.le_refl _) q⟩
  | succ t ih =>
    intro c p v2 v3 mem hc hm hp hsm hh k
    refine sg3_mendMost_38 ⟨fun q => absurd q ?_, fun _ => ⟨fun q => absurd ((iz_9 (ho s hs)).mp q) h9, fun _ => ⟨e8, ?_⟩⟩⟩
    · rw [show (4 : Int32) = nI 4 from rfl, nI_leI (by omega) (by omega)]; omega
    · rw [cs]
      generalize hm1 : am_set mem 21 s (nI c) = m1
      have hs1 : sm 21 22 m0 m1 := hm1 ▸ sm_set hsm (by omega) (by omega)
      have hX1 : Hx m1 σ := hX.keep (fun a h1 h2 => hs1 a (by omega))
      have hh1 : ∀ i, i < s_n σ → i ≠ s → m1 21 i = iz (hd i) := fun i hi his => by rw [← hm1, am_set_nj _ _ his]; exact hh i hi his
      have hH : HdC m1 (s_n σ) (hset hd s c) := fun i hi => by
        by_cases his : i = s
        · subst his; rw [← hm1, am_set_eq]; simp [hset, iz_nI]
        · rw [hh1 i hi his]; simp [hset, his]
      have hfl := flt_le σ (hset hd s c) hn
      refine c3_countFaults (d := D) hσ hX1 hH (hset_ok ho (by omega)) ?_
      rw [nI_leI (by omega) (by omega)]
      refine ⟨fun q => sg3_mendMost_81 ?_, fun q => sg3_mendMost_81 ?_⟩
      · rw [nI_1]
        have e : stc σ (s_n σ) hd s c p = p := by unfold stc; rw [if_neg (by omega)]
        refine ih (c + 1) p v2 v3 m1 (by omega) hm hp hs1 hh1 (fun a b m => ?_)
        have := k a b m
        simp only [tlB, e] at this
        exact this
      · rw [nI_1]
        have e : stc σ (s_n σ) hd s c p = (flt σ (hset hd s c) (s_n σ), 10 * (s : Int) + c) := by unfold stc; rw [if_pos (by omega)]
        refine ih (c + 1) (flt σ (hset hd s c) (s_n σ), 10 * (s : Int) + c) (nI s) (nI c) m1 (by omega) (Or.inr ⟨s, c, hs, by omega, rfl, rfl, rfl⟩) hfl hs1 hh1 (fun a b m => ?_)
        have := k a b m
        simp only [tlB, e] at this
        exact this
theorem c3_mendMost {d : Nat} {mem : am_Mem} {P : Int32 → am_Mem → Prop} {σ : mp_S} {hd : Nat → Int} (hσ : s_ok σ) (hX : Hx mem σ) (hh : HdC mem (s_n σ) hd) (ho : hok (s_n σ) hd)
    (h : ∀ mem', sm 21 22 mem mem' → HdC mem' (s_n σ) (aft hd (stir σ (s_n σ) hd).2) → P (iz (stir σ (s_n σ) hd).2) mem') : am_Ci m3_mendMost (d + 4) [.ref 20] mem P := by
  have hn := hσ.1
  have loop : ∀ (r s : Nat) (p : Nat × Int) (v2 v3 : Int32) (m : am_Mem), s + r = s_n σ → mr (s_n σ) p v2 v3 → p.1 ≤ 36 → sm 21 22 mem m → HdC m (s_n σ) hd → tlB (sts σ (s_n σ) hd) r s p = stir σ (s_n σ) hd → am_J m3_mendMost (d + 4) 14 [.ref 20, .int (nI p.1), .int v2, .int v3, .int (nI s), .null, .null, .null] [] m (fun r mem' => ∃ x, r = some (.int x) ∧ P x mem') := by
    intro r
    induction r with
    | zero =>
      intro s p v2 v3 m hs hm hp hsm hH he
      have : s = s_n σ := by omega
      subst this
      have he : p = stir σ (s_n σ) hd := he
      have hN : m 1 4 = nI (s_n σ) := by rw [hsm 1 (by omega)]; exact hX.2.2.1
      refine sg3_mendMost_14 ⟨fun _ => ?_, fun q => absurd (by rw [hN]; exact Int32.le_refl _) q⟩
      rcases hm with ⟨m1, m2⟩ | ⟨s, c, hs, hc, m1, m2, m3⟩
      · refine ⟨fun q => absurd m2 q, fun _ => am_eq (h m hsm ?_) ?_⟩
        · rw [← he, m1, aft_n]; exact hH
        · rw [← he, m1]; rfl
      · have hne : ¬ nI s = -9 := by
          rw [iz_nI, show (-9 : Int32) = iz (-9) from rfl, iz_eq (by omega) (by omega) (by omega) (by omega)]; omega
        refine ⟨fun _ => ⟨by rw [m2]; exact vp_in_nI (by omega) (by omega), ?_⟩, fun q => absurd q (by rw [m2]; exact hne)⟩
        rw [m2, m3, nI_clamp (by omega)]
        refine am_eq (h _ (sm_set hsm (by omega) (by omega)) ?_) ?_
        · rw [← he, m1, aft_s hd hc]
          intro i hi
          by_cases his : i = s
          · subst his; rw [am_set_eq]; simp [hset, iz_nI]
          · rw [am_set_nj _ _ his, hH i hi]; simp [hset, his]
        · rw [← he, m1, show (10 : Int32) = nI 10 from rfl, pk_mul, nI_add, iz_nI]
          congr 1
    | succ r ih =>
      intro s p v2 v3 m hs hm hp hsm hH he
      have hN : m 1 4 = nI (s_n σ) := by rw [hsm 1 (by omega)]; exact hX.2.2.1
      have e8 : vp_in (nI s) 8 := vp_in_nI (by omega) (by omega)
      have cs : (nI s).toNatClampNeg = s := nI_clamp (by omega)
      have k87 : ∀ (p' : Nat × Int) (v2 v3 : Int32) (m' : am_Mem), p' = sts σ (s_n σ) hd s p → mr (s_n σ) p' v2 v3 → p'.1 ≤ 36 → sm 21 22 mem m' → (∀ i, i < s_n σ → i ≠ s → m' 21 i = iz (hd i)) → am_J m3_mendMost (d + 4) 87 [.ref 20, .int (nI p'.1), .int v2, .int v3, .int (nI s), .int (iz (hd s)), .null, .null] [] m' (fun r mem' => ∃ x, r = some (.int x) ∧ P x mem') := by
        intro p' v2 v3 m' e g1 g2 g3 g4
        refine sg3_mendMost_87 ⟨e8, ?_⟩
        rw [nI_1, cs]
        refine ih (s + 1) p' v2 v3 _ (by omega) g1 g2 (sm_set g3 (by omega) (by omega)) (fun i hi => ?_) (by rw [e]; exact he)
        by_cases his : i = s
        · subst his; rw [am_set_eq]
        · rw [am_set_nj _ _ his]; exact g4 i hi his
      refine sg3_mendMost_14 ⟨fun q => absurd q ?_, fun _ => ⟨e8, ?_⟩⟩
      · rw [hN, nI_leI (by omega) (by omega)]; omega
      · rw [cs, hH s (by omega)]
        by_cases h9 : hd s = -9
        · have e : sts σ (s_n σ) hd s p = p := by unfold sts; rw [if_pos h9]
          refine sg3_mendMost_38 ⟨fun q => absurd q (by decide), fun _ => ⟨fun _ => k87 p v2 v3 m e.symm hm hp hsm (fun i hi _ => hH i hi), fun q => absurd (by rw [h9]; rfl) q⟩⟩
        · have e : sts σ (s_n σ) hd s p = tlB (stc σ (s_n σ) hd s) 4 0 p := by unfold sts; rw [if_neg h9]
          exact mend_38 hσ hX ho (by omega) h9 4 0 p v2 v3 m (by omega) hm hp hsm (fun i hi _ => hH i hi) (fun a b m' g1 g2 g3 g4 => k87 _ a b m' e.symm g1 g2 g3 g4)
  refine am_ci rfl rfl rfl (sg3_mendMost_0 (c3_countFaults (d := d) hσ hX hh ho ?_))
  exact loop (s_n σ) 0 (flt σ hd (s_n σ), -9) (-9) (-9) mem (by omega) (Or.inl ⟨rfl, rfl⟩) (flt_le σ hd hn) (sm_rf _ _ _) hh rfl
/-! THE HAND of the reference -/
theorem g_free_b0 (σ : mp_S) (z : Int) (i c : Nat) : g_free σ z (bt 0) i c = g_free σ z aw0 i c := by
  have : (bt 0 : Nat → Bool) = aw0 := by funext i; exact b_0 i
  rw [this]
def HdM (mem : am_Mem) (n : Nat) (hd : Nat → Int) : Prop := ∀ i, i < n → mem 37 i = iz (hd i)
theorem c7_faultsWith {d : Nat} {mem : am_Mem} {P : Int32 → am_Mem → Prop} {σ : mp_S} {hd : Nat → Int} {s : Nat} (hσ : s_ok σ) (hM : Mo mem σ 1 0) (hh : s_hd σ = hd) (hs : s < s_n σ) (h : P (nI (fwt σ hd s (s_n σ))) mem) : am_Ci m7_faultsWith (d + 3) [.ref 30, .int (nI s)] mem P := by
  have hn := hσ.1
  have e8 : vp_in (nI s) 8 := vp_in_nI (by omega) (by omega)
  have cs : (nI s).toNatClampNeg = s := nI_clamp (by omega)
  have ho : hok (s_n σ) hd := fun i hi => by rw [← hh]; exact (hσ.2.2.2.2.2 i hi).2.2.2.2.2
  have hH : ∀ i, i < s_n σ → mem 37 i = iz (hd i) := fun i hi => by rw [← hh]; exact (hM.2 i hi).2.2.2.2.2.1
  refine am_ci rfl rfl rfl (sg7_faultsWith_0 ⟨e8, ?_⟩)
  rw [cs, hH s hs, iz_9 (ho s hs)]
  refine ⟨fun q => ⟨e8, ?_⟩, fun q => am_eq h ?_⟩
  · obtain ⟨c1, c2⟩ := cr_iz (ho s hs) q
    have loop : ∀ (r o : Nat), o + r = s_n σ → am_J m7_faultsWith (d + 3) 35 [.ref 30, .int (nI s), .int (nI (fwt σ hd s o)), .int (nI o)] [] mem (fun r mem' => ∃ x, r = some (.int x) ∧ P x mem') := by
      intro r
      induction r with
      | zero =>
        intro o ho'
        have : o = s_n σ := by omega
        subst this
        refine sg7_faultsWith_35 ⟨fun _ => am_eq h rfl, fun q => absurd ?_ q⟩
        rw [hM.1.2.2.1]; exact Int32.le_refl _
      | succ r ih =>
        intro o ho'
        have f8 : vp_in (nI o) 8 := vp_in_nI (by omega) (by omega)
        have co : (nI o).toNatClampNeg = o := nI_clamp (by omega)
        have k86 : ∀ x : Int32, x = nI (if o = s then 0 else shr σ hd s o) → am_J m7_faultsWith (d + 3) 86 [.ref 30, .int (nI s), .null, .int (nI o)] [.int x, .int (nI (fwt σ hd s o))] mem (fun r mem' => ∃ x, r = some (.int x) ∧ P x mem') := by
          intro x hx
          refine sg7_faultsWith_86 ?_
          rw [nI_1, hx, nI_add]
          have e : fwt σ hd s o + (if o = s then 0 else shr σ hd s o) = fwt σ hd s (o + 1) := by unfold fwt; simp only [sumN]; omega
          rw [e]
          exact ih (o + 1) (by omega)
        have k85 : (if o = s then 0 else shr σ hd s o) = 0 → am_J m7_faultsWith (d + 3) 85 [.ref 30, .int (nI s), .null, .int (nI o)] [.int (nI (fwt σ hd s o))] mem (fun r mem' => ∃ x, r = some (.int x) ∧ P x mem') := fun e => sg7_faultsWith_85 (k86 0 (by rw [e]; rfl))
        refine sg7_faultsWith_35 ⟨fun q => absurd q ?_, fun _ => ?_⟩
        · rw [hM.1.2.2.1, nI_leI (by omega) (by omega)]; omega
        · rw [nI_eq (by omega) (by omega), co, cs, hH o (by omega), hH s hs, iz_9 (ho o (by omega))]
          refine ⟨fun q1 => k85 (by rw [if_pos q1]), fun q1 => ⟨f8, fun q2 => k85 ?_, fun q2 => ⟨e8, f8, ?_⟩⟩⟩
          · rw [if_neg q1]; unfold shr; rw [if_neg q, if_pos q2]
          · obtain ⟨c3, c4⟩ := cr_iz (ho o (by omega)) q2
            rw [c1, c3]
            refine c7_clashes (d := d) hσ (by omega) (by omega) hM hs c2 (by omega) c4 ⟨fun q3 => k85 ?_, fun q3 => k86 1 ?_⟩
            · rw [if_neg q1]; unfold shr; rw [if_neg q, if_neg q2, if_neg (by rw [bi_0.mp q3]; decide)]
            · rw [if_neg q1]; unfold shr; rw [if_neg q, if_neg q2, if_pos (bi_n0.mp q3)]; rfl
    rw [c1]
    have k32 : ∀ x : Int32, x = nI (own σ hd s) → am_J m7_faultsWith (d + 3) 32 [.ref 30, .int (nI s), .null, .null] [.int x] mem (fun r mem' => ∃ x, r = some (.int x) ∧ P x mem') := by
      intro x hx
      refine sg7_faultsWith_32 ?_
      rw [hx]
      exact loop (s_n σ) 0 (by omega)
    refine c7_isFree (d := d) hσ (by omega) (by omega) hM hs c2 ?_
    rw [g_free_b0]
    refine ⟨fun q1 => k32 1 ?_, fun q1 => k32 0 ?_⟩
    · unfold own; rw [if_neg q, if_neg (by rw [bi_0.mp q1]; decide)]; rfl
    · unfold own; rw [if_neg q, if_pos (bi_n0.mp q1)]; rfl
  · have e0 : own σ hd s = 0 := by unfold own; rw [if_pos q]
    have e1 : sumN (fun o => if o = s then 0 else shr σ hd s o) (s_n σ) = 0 := by
      have : ∀ k, sumN (fun o => if o = s then 0 else shr σ hd s o) k = 0 := by
        intro k
        induction k with
        | zero => rfl
        | succ k ih =>
          simp only [sumN, ih]
          split
          · rfl
          · unfold shr; rw [if_pos q]
      exact this _
    unfold fwt; rw [e0, e1]; rfl
