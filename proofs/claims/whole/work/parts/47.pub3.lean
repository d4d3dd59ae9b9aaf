theorem bi_ite {A B : Prop} {b : Bool} (ha : b = false → A) (hb : b = true → B) : (bi b = 0 → A) ∧ (¬ bi b = 0 → B) := ⟨fun q => ha (bi_0.mp q), fun q => hb (bi_n0.mp q)⟩
theorem pr_free {mem : am_Mem} {σ : mp_S} (hI : Inv mem σ) (v w : Int32) : Pr m6_free m7_free [.int v, .int w] mem := by
  have hI0 := hI
  obtain ⟨hσ, hC, hM⟩ := hI
  have hn := hσ.1
  have hz := hσ.2.2.2.1
  intro P hP
  rcases sit v (s_n σ) with ⟨i, hi, rfl⟩ | hv
  case inr => exact am_ci rfl rfl rfl (sg6_free_0 (has_f hn hC.2.2.2.2.1 hv (z00' ⟨_, rfl, am_ci rfl rfl rfl (sg7_free_0 (isS_f hn hM.1.2.2.1 hv (z00' ⟨_, rfl, hP _ mem σ hI0⟩)))⟩)))
  rcases sit w 4 with ⟨c, hc, rfl⟩ | hw
  case inr => exact am_ci rfl rfl rfl (sg6_free_0 (has_t hn hC.2.2.2.2.1 hi (z10' (co6_f hw (z00' ⟨_, rfl, am_ci rfl rfl rfl (sg7_free_0 (isS_t hn hM.1.2.2.1 hi (z10' (co7_f hw (z00' ⟨_, rfl, hP _ mem σ hI0⟩)))))⟩)))))
  refine am_ci rfl rfl rfl (sg6_free_0 (has_t hn hC.2.2.2.2.1 hi (z10' (co6_t hc (z10' ?_)))))
  rw [hC.2.2.1]
  refine c0_measure hσ hC hz.1 hz.2 (z := 1) (by omega) (by omega) (fun m1 s1 b1 => c6_boxOf ?_)
  rw [box_nI]
  have b1 : Bx m1 σ 1 (s_n σ) := b1
  have hI1 : Inv m1 σ := hI0.c (fun a ha => s1 a (by omega))
  refine c0_isFree hσ (by omega) (by omega) b1 hI1.2.1.2.2.2.2.1 hi hc ((hI1.2.1.2.2.2.2.2 i hi).2.2.2.2.2.2 c hc) (c6_toInt ⟨_, rfl, ?_⟩)
  refine am_ci rfl rfl rfl (sg7_free_0 (isS_t hn hI1.2.2.1.2.2.1 hi (z10' (co7_t hc (z10' (c7_isFree hσ (by omega) (by omega) hI1.2.2 hi hc ?_))))))
  have e : g_free σ 1 (bt 0) i c = g_free σ 1 aw0 i c := by
    unfold g_free aw0
    congr 1; congr 1; funext o; rw [b_0]
  rw [e]
  exact bi_ite (fun q => ⟨_, rfl, by rw [q]; exact hP _ m1 σ hI1⟩) (fun q => ⟨_, rfl, by rw [q]; exact hP _ m1 σ hI1⟩)
theorem pr_clash {mem : am_Mem} {σ : mp_S} (hI : Inv mem σ) (v w x y : Int32) : Pr m6_clash m7_clash [.int v, .int w, .int x, .int y] mem := by
  have hI0 := hI
  obtain ⟨hσ, hC, hM⟩ := hI
  have hn := hσ.1
  have hz := hσ.2.2.2.1
  intro P hP
  have out : ∀ x, P x x mem := fun x => hP x mem σ hI0
  have hN := hC.2.2.2.2.1
  have hN7 := hM.1.2.2.1
  rcases sit v (s_n σ) with ⟨i, hi, rfl⟩ | hv
  case inr => exact am_ci rfl rfl rfl (sg6_clash_0 (has_f hn hN hv (z00 ⟨_, rfl, am_ci rfl rfl rfl (sg7_clash_0 (isS_f hn hN7 hv (z00 ⟨_, rfl, out _⟩)))⟩)))
  rcases sit x (s_n σ) with ⟨j, hj, rfl⟩ | hv
  case inr => exact am_ci rfl rfl rfl (sg6_clash_0 (has_t hn hN hi (z10 (has_f hn hN hv (z00' ⟨_, rfl, am_ci rfl rfl rfl (sg7_clash_0 (isS_t hn hN7 hi (z10 (isS_f hn hN7 hv (z00' ⟨_, rfl, out _⟩)))))⟩)))))
  rcases sit w 4 with ⟨c, hc, rfl⟩ | hw
  case inr => exact am_ci rfl rfl rfl (sg6_clash_0 (has_t hn hN hi (z10 (has_t hn hN hj (z10' (co6_f hw (z00 ⟨_, rfl, am_ci rfl rfl rfl (sg7_clash_0 (isS_t hn hN7 hi (z10 (isS_t hn hN7 hj (z10' (co7_f hw (z00 ⟨_, rfl, out _⟩)))))))⟩)))))))
  rcases sit y 4 with ⟨e, he, rfl⟩ | hw
  case inr => exact am_ci rfl rfl rfl (sg6_clash_0 (has_t hn hN hi (z10 (has_t hn hN hj (z10' (co6_t hc (z10 (co6_f hw (z00' ⟨_, rfl, am_ci rfl rfl rfl (sg7_clash_0 (isS_t hn hN7 hi (z10 (isS_t hn hN7 hj (z10' (co7_t hc (z10 (co7_f hw (z00' ⟨_, rfl, out _⟩)))))))))⟩)))))))))
  refine am_ci rfl rfl rfl (sg6_clash_0 (has_t hn hN hi (z10 (has_t hn hN hj (z10' (co6_t hc (z10 (co6_t he (z10' ?_)))))))))
  rw [hC.2.2.1]
  refine ⟨fun hne => ?_, fun heq => ⟨_, rfl, am_ci rfl rfl rfl (sg7_clash_0 (isS_t hn hN7 hi (z10 (isS_t hn hN7 hj (z10' (co7_t hc (z10 (co7_t he (z10' ⟨fun q => absurd heq q, fun _ => ⟨_, rfl, out _⟩⟩)))))))))⟩⟩
  refine c0_measure hσ hC hz.1 hz.2 (z := 1) (by omega) (by omega) (fun m1 s1 b1 => c6_boxOf (c6_boxOf ?_))
  rw [box_nI, box_nI]
  have b1 : Bx m1 σ 1 (s_n σ) := b1
  have hI1 : Inv m1 σ := hI0.c (fun a ha => s1 a (by omega))
  refine c0_doClash hσ (by omega) (by omega) b1 hi hj hi hc hj he hI1.2.1.2.2.2.1 (c6_toInt ⟨_, rfl, ?_⟩)
  have hN71 := hI1.2.2.1.2.2.1
  refine am_ci rfl rfl rfl (sg7_clash_0 (isS_t hn hN71 hi (z10 (isS_t hn hN71 hj (z10' (co7_t hc (z10 (co7_t he (z10' ⟨fun _ => c7_clashes hσ (by omega) (by omega) hI1.2.2 hi hc hj he ?_, fun q => absurd q hne⟩)))))))))
  exact bi_ite (fun q => ⟨_, rfl, by rw [q]; exact hP _ m1 σ hI1⟩) (fun q => ⟨_, rfl, by rw [q]; exact hP _ m1 σ hI1⟩)
theorem pr_best {mem : am_Mem} {σ : mp_S} (hI : Inv mem σ) : Pr m6_best m7_best [] mem := by
  intro P hP
  have hσ := hI.1
  refine am_ci rfl rfl rfl (sg6_best_0 (c5_findBest hσ hI.2.1 (fun m1 s1 b1 => ⟨_, rfl, ?_⟩)))
  have hI1 : Inv m1 σ := hI.c (fun a ha => s1 a (by omega))
  refine am_ci rfl rfl rfl (sg7_best_0 (c7_layBest hσ hI1.2.2 (fun m2 s2 b2 => ⟨_, rfl, ?_⟩)))
  rw [b1.1, b2.1]
  exact hP _ m2 σ (hI1.m s2)
theorem pr_at {mem : am_Mem} {σ : mp_S} (hI : Inv mem σ) (v : Int32) : Pr m6_at m7_at [.int v] mem := by
  intro P hP
  have hσ := hI.1
  have hn := hσ.1
  rcases sit v (s_n σ) with ⟨i, hi, rfl⟩ | hv
  case inr => exact am_ci rfl rfl rfl (sg6_at_0 (has_f hn hI.2.1.2.2.2.2.1 hv (z00' ⟨_, rfl, am_ci rfl rfl rfl (sg7_at_0 (isS_f hn hI.2.2.1.2.2.1 hv (z00' ⟨_, rfl, hP _ mem σ hI⟩)))⟩)))
  have e8 : vp_in (nI i) 8 := vp_in_nI (by omega) (by omega)
  have cl : (nI i).toNatClampNeg = i := nI_clamp (by omega)
  refine am_ci rfl rfl rfl (sg6_at_0 (has_t hn hI.2.1.2.2.2.2.1 hi (z10' (c5_findBest hσ hI.2.1 (fun m1 s1 b1 => ⟨e8, ⟨_, rfl, ?_⟩⟩)))))
  have hI1 : Inv m1 σ := hI.c (fun a ha => s1 a (by omega))
  refine am_ci rfl rfl rfl (sg7_at_0 (isS_t hn hI1.2.2.1.2.2.1 hi (z10' (c7_layBest hσ hI1.2.2 (fun m2 s2 b2 => ⟨e8, ⟨_, rfl, ?_⟩⟩)))))
  rw [cl, b1.2 (Bst_0 hσ).1 i hi, b2.2 (Bst_0 hσ).1 i hi]
  exact hP _ m2 σ (hI1.m s2)
theorem pr_named {mem : am_Mem} {σ : mp_S} (hI : Inv mem σ) : Pr m6_named m7_named [] mem := by
  intro P hP
  have hσ := hI.1
  have hn := hσ.1
  refine am_ci rfl rfl rfl (sg6_named_0 (c5_findBest hσ hI.2.1 (fun m1 s1 b1 => ?_)))
  have hI1 : Inv m1 σ := hI.c (fun a ha => s1 a (by omega))
  have l6 : ∀ (r i : Nat), i + r = s_n σ → am_J m6_named 20 11 [.ref 0, .int (nI (sumN (fun i => if cor ((Bst σ).2 i) = -9 then 0 else 1) i)), .int (nI i)] [] m1 (fun r mem' => ∃ x, r = some (.int x) ∧ am_Ci m7_named 20 [.ref 30] mem' (fun r2 mem2 => P x r2 mem2)) := by
    intro r
    induction r with
    | zero =>
      intro i hi
      have : i = s_n σ := by omega
      subst this
      refine sg6_named_11 ⟨fun _ => ⟨_, rfl, ?_⟩, fun q => absurd (by rw [hI1.2.1.2.2.2.2.1]; exact Int32.le_refl _) q⟩
      refine am_ci rfl rfl rfl (sg7_named_0 (c7_layBest hσ hI1.2.2 (fun m2 s2 b2 => ?_)))
      have hI2 : Inv m2 σ := hI1.m s2
      have l7 : ∀ (r i : Nat), i + r = s_n σ → am_J m7_named 20 8 [.ref 30, .int (nI (sumN (fun i => if cor ((Bst σ).2 i) = -9 then 0 else 1) i)), .int (nI i)] [] m2 (fun r mem' => ∃ x, r = some (.int x) ∧ P (nI (sumN (fun i => if cor ((Bst σ).2 i) = -9 then 0 else 1) (s_n σ))) x mem') := by
        intro r
        induction r with
        | zero =>
          intro i hi
          have : i = s_n σ := by omega
          subst this
          exact sg7_named_8 ⟨fun _ => ⟨_, rfl, hP _ m2 σ hI2⟩, fun q => absurd (by rw [hI2.2.2.1.2.2.1]; exact Int32.le_refl _) q⟩
        | succ r ih =>
          intro i hi
          have := ih (i + 1) (by omega)
          refine sg7_named_8 ⟨fun q => absurd q (by rw [hI2.2.2.1.2.2.1, nI_leI (by omega) (by omega)]; omega), fun _ => ⟨vp_in_nI (by omega) (by omega), ?_⟩⟩
          rw [nI_clamp (by omega), b2.2 (Bst_0 hσ).1 i (by omega)]
          refine ⟨fun q => sg7_named_33 ?_, fun q => sg7_named_33 ?_⟩
          · simp only [sumN, if_neg q] at this
            rw [nI_1, nI_1]; exact this
          · simp only [sumN, if_pos q, Nat.add_zero] at this
            rw [nI_1, Int32.add_zero]; exact this
      exact l7 (s_n σ) 0 (by omega)
    | succ r ih =>
      intro i hi
      have := ih (i + 1) (by omega)
      refine sg6_named_11 ⟨fun q => absurd q (by rw [hI1.2.1.2.2.2.2.1, nI_leI (by omega) (by omega)]; omega), fun _ => ⟨vp_in_nI (by omega) (by omega), ?_⟩⟩
      rw [nI_clamp (by omega), b1.2 (Bst_0 hσ).1 i (by omega)]
      refine ⟨fun q => sg6_named_39 ?_, fun q => sg6_named_39 ?_⟩
      · simp only [sumN, if_pos q, Nat.add_zero] at this
        rw [nI_1]; exact this
      · simp only [sumN, if_neg q] at this
        rw [nI_1, nI_1]; exact this
  exact l6 (s_n σ) 0 (by omega)
/-! THE HAND -/
theorem Ch.sh {mem mem' : am_Mem} {σ : mp_S} (h : Ch mem σ) (hk : ∀ a, a ≤ 7 → mem' a = mem a) {hd : Nat → Int} (hh : HdC mem' (s_n σ) hd) : Ch mem' (s_sh σ hd) := by
  refine ⟨by rw [hk 1 (by omega)]; exact h.1, by rw [hk 1 (by omega)]; exact h.2.1, by rw [hk 1 (by omega)]; exact h.2.2.1, by rw [hk 1 (by omega)]; exact h.2.2.2.1, by rw [hk 1 (by omega)]; exact h.2.2.2.2.1, fun i hi => ?_⟩
  have hi : i < s_n σ := hi
  obtain ⟨a, b, c, e, f, -, g⟩ := h.2.2.2.2.2 i hi
  rw [hk 2 (by omega), hk 3 (by omega), hk 4 (by omega), hk 5 (by omega), hk 6 (by omega), hk 7 (by omega)]
  exact ⟨a, b, c, e, f, hh i hi, g⟩
theorem Mo.hdm {mem : am_Mem} {σ : mp_S} (h : Mo mem σ 1 0) : HdM mem (s_n σ) (s_hd σ) := fun i hi => (h.2 i hi).2.2.2.2.2.1
theorem Ch.hdc {mem : am_Mem} {σ : mp_S} (h : Ch mem σ) : HdC mem (s_n σ) (s_hd σ) := fun i hi => (h.2.2.2.2.2 i hi).2.2.2.2.2.1
theorem s_ok.hok {σ : mp_S} (h : s_ok σ) : hok (s_n σ) (s_hd σ) := fun i hi => (h.2.2.2.2.2 i hi).2.2.2.2.2
theorem Inv.sh {mem mem1 mem2 : am_Mem} {σ : mp_S} (h : Inv mem σ) {hd : Nat → Int} (ho : hok (s_n σ) hd) (k1 : ∀ a, a ≤ 7 ∨ 30 ≤ a → mem1 a = mem a) (h1 : HdC mem1 (s_n σ) hd) (k2 : sm 37 38 mem1 mem2) (h2 : HdM mem2 (s_n σ) hd) : Inv mem2 (s_sh σ hd) := by
  refine ⟨s_ok_sh h.1 ho, ?_, ?_⟩
  · exact (h.2.1.sh (mem' := mem1) (fun a ha => k1 a (by omega)) h1).keep (fun a ha => k2 a (by omega))
  · have hM1 : Mo mem1 σ 1 0 := h.2.2.ge (fun a ha => k1 a (by omega))
    exact (hM1.mh.keep k2).mo h2
def corz (c : Nat) : Int := if c < 4 then c else -9
theorem cor_iz (c : Nat) : cor c = iz (corz c) := by
  unfold cor corz
  by_cases h : c < 4
  · rw [if_pos h, if_pos h, iz_nI]
  · rw [if_neg h, if_neg h]; rfl
theorem corz_ok (c : Nat) : corz c = -9 ∨ (0 ≤ corz c ∧ corz c ≤ 3) := by unfold corz; split <;> omega
theorem pr_put {mem : am_Mem} {σ : mp_S} (hI : Inv mem σ) (v w : Int32) : Pr m6_put m7_put [.int v, .int w] mem := by
  intro P hP
  have hσ := hI.1
  have hn := hσ.1
  have hN := hI.2.1.2.2.2.2.1
  have hN7 := hI.2.2.1.2.2.1
  rcases sit v (s_n σ) with ⟨i, hi, rfl⟩ | hv
  case inr => exact am_ci rfl rfl rfl (sg6_put_0 (has_f hn hN hv (z00' ⟨_, rfl, am_ci rfl rfl rfl (sg7_put_0 (isS_f hn hN7 hv (z00' ⟨_, rfl, hP _ mem σ hI⟩)))⟩)))
  have e8 : vp_in (nI i) 8 := vp_in_nI (by omega) (by omega)
  have cl : (nI i).toNatClampNeg = i := nI_clamp (by omega)
  have go : ∀ x : Int, w = iz x → (x = -9 ∨ (0 ≤ x ∧ x ≤ 3)) → P (mem 21 i) (mem 37 i) (am_set (am_set mem 21 i w) 37 i w) := by
    intro x hw hx
    have hh : hok (s_n σ) (hset (s_hd σ) i x) := fun j hj => by
      unfold hset; split
      · exact hx
      · exact hσ.hok j hj
    rw [hI.2.1.hdc i hi, hI.2.2.hdm i hi]
    refine hP _ _ _ (hI.sh (mem1 := am_set mem 21 i w) hh (fun a ha => am_set_na _ _ (by omega)) (fun j hj => ?_) (sm_set (sm_rf _ _ _) (by omega) (by omega)) (fun j hj => ?_))
    · rw [am_set_at]
      exact ite_iz (fun _ => hw) (fun _ => hI.2.1.hdc j hj)
    · rw [am_set_at, am_set_na _ _ (by decide)]
      exact ite_iz (fun _ => hw) (fun _ => hI.2.2.hdm j hj)
  have fin : ∀ x : Int, w = iz x → (x = -9 ∨ (0 ≤ x ∧ x ≤ 3)) → am_J m6_put 20 29 [.ref 0, .int (nI i), .int w, .null] [] mem (fun r mem' => ∃ x, r = some (.int x) ∧ am_Ci m7_put 20 [.ref 30, .int (nI i), .int w] mem' (fun r2 mem2 => P x r2 mem2)) := by
    intro x hw hx
    refine sg6_put_29 ⟨e8, e8, ⟨_, rfl, ?_⟩⟩
    rw [cl]
    have k26 : am_J m7_put 20 26 [.ref 30, .int (nI i), .int w, .null] [] (am_set mem 21 i w) (fun r2 mem2 => ∃ y, r2 = some (.int y) ∧ P (mem 21 i) y mem2) := by
      refine sg7_put_26 ⟨e8, e8, ⟨_, rfl, ?_⟩⟩
      rw [cl, am_set_na _ _ (by decide)]
      exact go x hw hx
    refine am_ci rfl rfl rfl (sg7_put_0 (isS_t hn (by rw [am_set_na _ _ (by decide)]; exact hN7) hi (z10' ⟨fun _ => k26, fun q => ?_⟩)))
    rcases hx with hx | hx
    · exact absurd (by rw [hw, hx]; rfl) q
    · obtain ⟨c, rfl⟩ := Int.eq_ofNat_of_zero_le hx.1
      rw [← iz_nI] at hw
      rw [hw] at k26 ⊢
      exact co7_t (by omega) (z10' k26)
  rcases sit w 4 with ⟨c, hc, rfl⟩ | hw
  · exact am_ci rfl rfl rfl (sg6_put_0 (has_t hn hN hi (z10' (co6_t hc (z10' (fin c (iz_nI c) (Or.inr (by omega))))))))
  · refine am_ci rfl rfl rfl (sg6_put_0 (has_t hn hN hi (z10' (co6_f hw (z00' ⟨fun q => fin (-9) (by rw [q]; rfl) (Or.inl rfl), fun q => ⟨_, rfl, ?_⟩⟩)))))
    exact am_ci rfl rfl rfl (sg7_put_0 (isS_t hn hN7 hi (z10' ⟨fun q1 => absurd q1 q, fun _ => co7_f hw (z00' ⟨_, rfl, hP _ mem σ hI⟩)⟩)))
theorem pr_hand {mem : am_Mem} {σ : mp_S} (hI : Inv mem σ) (v : Int32) : Pr m6_hand m7_hand [.int v] mem := by
  intro P hP
  have hσ := hI.1
  have hn := hσ.1
  have hN := hI.2.1.2.2.2.2.1
  have hN7 := hI.2.2.1.2.2.1
  rcases sit v (s_n σ) with ⟨i, hi, rfl⟩ | hv
  case inr => exact am_ci rfl rfl rfl (sg6_hand_0 (has_f hn hN hv (z00 ⟨_, rfl, am_ci rfl rfl rfl (sg7_hand_0 (isS_f hn hN7 hv (z00 ⟨_, rfl, hP _ mem σ hI⟩)))⟩)))
  have e8 : vp_in (nI i) 8 := vp_in_nI (by omega) (by omega)
  have cl : (nI i).toNatClampNeg = i := nI_clamp (by omega)
  refine am_ci rfl rfl rfl (sg6_hand_0 (has_t hn hN hi (z10 ⟨e8, ⟨_, rfl, am_ci rfl rfl rfl (sg7_hand_0 (isS_t hn hN7 hi (z10 ⟨e8, ⟨_, rfl, ?_⟩⟩)))⟩⟩)))
  rw [cl, hI.2.1.hdc i hi, hI.2.2.hdm i hi]
  exact hP _ mem σ hI
theorem pr_take {mem : am_Mem} {σ : mp_S} (hI : Inv mem σ) : Pr m6_take m7_take [] mem := by
  intro P hP
  have hσ := hI.1
  have hn := hσ.1
  have hb0 := (Bst_0 hσ).1
  have eqv : ∀ i, i < s_n σ → (iz (s_hd σ i) = cor ((Bst σ).2 i) ↔ s_hd σ i = corz ((Bst σ).2 i)) := fun i hi => by
    have h1 := hσ.hok i hi
    have h2 := corz_ok ((Bst σ).2 i)
    rw [cor_iz, iz_eq (by omega) (by omega) (by omega) (by omega)]
  have hh : hok (s_n σ) (fun i => corz ((Bst σ).2 i)) := fun i _ => corz_ok _
  refine am_ci rfl rfl rfl (sg6_take_0 (c5_findBest hσ hI.2.1 (fun m1 s1 b1 => ?_)))
  have hI1 : Inv m1 σ := hI.c (fun a ha => s1 a (by omega))
  have l6 : ∀ (r i : Nat) (m : am_Mem), i + r = s_n σ → sm 21 22 m1 m → (∀ j, j < s_n σ → m 21 j = if j < i then cor ((Bst σ).2 j) else iz (s_hd σ j)) → am_J m6_take 20 11 [.ref 0, .int (nI (sumN (fun i => if s_hd σ i = corz ((Bst σ).2 i) then 0 else 1) i)), .int (nI i)] [] m (fun r mem' => ∃ x, r = some (.int x) ∧ am_Ci m7_take 20 [.ref 30] mem' (fun r2 mem2 => P x r2 mem2)) := by
    intro r
    induction r with
    | zero =>
      intro i m hi hm h21
      have : i = s_n σ := by omega
      subst this
      refine sg6_take_11 ⟨fun _ => ⟨_, rfl, ?_⟩, fun q => absurd (by rw [hm 1 (by omega), hI1.2.1.2.2.2.2.1]; exact Int32.le_refl _) q⟩
      have hMm : Mo m σ 1 0 := hI1.2.2.ge (fun a ha => hm a (by omega))
      refine am_ci rfl rfl rfl (sg7_take_0 (c7_layBest hσ hMm (fun m2 s2 b2 => ?_)))
      have hM2 : Mo m2 σ 1 0 := hMm.md s2
      have hC2 : HdC m2 (s_n σ) (fun i => corz ((Bst σ).2 i)) := fun j hj => by rw [s2.1 21 (by decide) (by decide), h21 j hj, if_pos hj, cor_iz]
      have l7 : ∀ (r i : Nat) (m' : am_Mem), i + r = s_n σ → sm 37 38 m2 m' → (∀ j, j < s_n σ → m' 37 j = if j < i then cor ((Bst σ).2 j) else iz (s_hd σ j)) → am_J m7_take 20 8 [.ref 30, .int (nI (sumN (fun i => if s_hd σ i = corz ((Bst σ).2 i) then 0 else 1) i)), .int (nI i)] [] m' (fun r mem' => ∃ x, r = some (.int x) ∧ P (nI (sumN (fun i => if s_hd σ i = corz ((Bst σ).2 i) then 0 else 1) (s_n σ))) x mem') := by
        intro r
        induction r with
        | zero =>
          intro i m' hi hm' h37
          have : i = s_n σ := by omega
          subst this
          refine sg7_take_8 ⟨fun _ => ⟨_, rfl, ?_⟩, fun q => absurd (by rw [hm' 30 (by omega), hM2.1.2.2.1]; exact Int32.le_refl _) q⟩
          refine hP _ m' (s_sh σ (fun i => corz ((Bst σ).2 i))) ⟨s_ok_sh hσ hh, ?_, ?_⟩
          · refine Ch.keep (mem := m2) (hI1.2.1.sh (mem' := m2) (fun a ha => ?_) hC2) (fun a ha => hm' a (by omega))
            rw [s2.1 a (by omega) (by omega), hm a (by omega)]
          · exact (hM2.mh.keep hm').mo (fun j hj => by rw [h37 j hj, if_pos hj, cor_iz])
        | succ r ih =>
          intro i m' hi hm' h37
          have e8 : vp_in (nI i) 8 := vp_in_nI (by omega) (by omega)
          refine sg7_take_8 ⟨fun q => absurd q (by rw [hm' 30 (by omega), hM2.1.2.2.1, nI_leI (by omega) (by omega)]; omega), fun _ => ⟨e8, e8, ?_⟩⟩
          rw [nI_clamp (by omega), h37 i (by omega), if_neg (by omega), hm' 39 (by omega), b2.2 hb0 i (by omega), eqv i (by omega)]
          have nxt := ih (i + 1) (am_set m' 37 i (cor ((Bst σ).2 i))) (by omega) (sm_set hm' (by omega) (by omega)) (fun j hj => by
            rw [am_set_at, h37 j hj]
            by_cases hji : j = i
            · rw [if_pos hji, if_pos (by omega), hji]
            · rw [if_neg hji]
              by_cases hj2 : j < i
              · rw [if_pos hj2, if_pos (by omega)]
              · rw [if_neg hj2, if_neg (by omega)])
          refine ⟨fun q => sg7_take_37 ⟨e8, e8, ?_⟩, fun q => sg7_take_37 ⟨e8, e8, ?_⟩⟩
          · simp only [sumN, if_pos q, Nat.add_zero] at nxt
            rw [nI_clamp (by omega), hm' 39 (by omega), b2.2 hb0 i (by omega), nI_1, Int32.add_zero]; exact nxt
          · simp only [sumN, if_neg q] at nxt
            rw [nI_clamp (by omega), hm' 39 (by omega), b2.2 hb0 i (by omega), nI_1, nI_1]; exact nxt
      exact l7 (s_n σ) 0 m2 (by omega) (sm_rf _ _ _) (fun j hj => by rw [if_neg (by omega)]; exact hM2.hdm j hj)
    | succ r ih =>
      intro i m hi hm h21
      have e8 : vp_in (nI i) 8 := vp_in_nI (by omega) (by omega)
      refine sg6_take_11 ⟨fun q => absurd q (by rw [hm 1 (by omega), hI1.2.1.2.2.2.2.1, nI_leI (by omega) (by omega)]; omega), fun _ => ⟨e8, e8, ?_⟩⟩
      rw [nI_clamp (by omega), h21 i (by omega), if_neg (by omega), hm 19 (by omega), b1.2 hb0 i (by omega), eqv i (by omega)]
      refine ⟨fun q => sg6_take_64 ?_, fun q => ⟨e8, e8, sg6_take_64 ?_⟩⟩
      · have nxt := ih (i + 1) m (by omega) hm (fun j hj => by
          rw [h21 j hj]
          by_cases hji : j = i
          · subst hji
            rw [if_neg (by omega), if_pos (by omega)]
            exact (eqv j hj).mpr q
          · by_cases hj2 : j < i
            · rw [if_pos hj2, if_pos (by omega)]
            · rw [if_neg hj2, if_neg (by omega)])
        simp only [sumN, if_pos q, Nat.add_zero] at nxt
        rw [nI_1]; exact nxt
      · have nxt := ih (i + 1) (am_set m 21 i (cor ((Bst σ).2 i))) (by omega) (sm_set hm (by omega) (by omega)) (fun j hj => by
          rw [am_set_at, h21 j hj]
          by_cases hji : j = i
          · rw [if_pos hji, if_pos (by omega), hji]
          · rw [if_neg hji]
            by_cases hj2 : j < i
            · rw [if_pos hj2, if_pos (by omega)]
            · rw [if_neg hj2, if_neg (by omega)])
        simp only [sumN, if_neg q] at nxt
        rw [nI_1, nI_1]; exact nxt
  exact l6 (s_n σ) 0 m1 (by omega) (sm_rf _ _ _) (fun j hj => by rw [if_neg (by omega)]; exact hI1.2.1.hdc j hj)
