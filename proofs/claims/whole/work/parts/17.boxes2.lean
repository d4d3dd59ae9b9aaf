theorem c0_mayStand {d : Nat} {mem : am_Mem} {P : Int32 → am_Mem → Prop} {σ : mp_S} {z : Int} {k i c : Nat} (hσ : s_ok σ) (hz1 : 1 ≤ z) (hz2 : z ≤ 6) (hB : Bx mem σ z k) (hik : i < k) (hi : i < s_n σ) (hc : c < 4) (ha : mem 7 (4 * i + c) = bi (s_al σ i c))
    (h : P (bi (g_in σ z i c)) mem) : am_Ci m0_mayStand d [.ref 8, .int (nI (4 * i + c))] mem P := by
  have hn := hσ.1
  have e32 : vp_in (nI (4 * i + c)) 32 := vp_in_nI (by omega) (by omega)
  have cb : (nI (4 * i + c)).toNatClampNeg = 4 * i + c := nI_clamp (by omega)
  obtain ⟨r1, r2, r3, r4, r5, r6⟩ := g_rng hσ hz1 hz2 hi c
  obtain ⟨rW, rH⟩ := g_WH hσ hz1 hz2
  obtain ⟨f1, f2, f3, f4⟩ := (hB.2.2 i hik).2.2 c hc
  refine am_ci rfl rfl rfl (sg0_mayStand_0 ?_)
  rw [cb, ha, f1, f2, f3, f4, hB.1, hB.2.1, show (0 : Int32) = iz 0 from rfl]
  rw [iz_lt (by omega) (by omega) (by omega) (by omega), iz_lt (by omega) (by omega) (by omega) (by omega), iz_lt (by omega) (by omega) (by omega) (by omega), iz_lt (by omega) (by omega) (by omega) (by omega), show iz 0 = (0 : Int32) from rfl, bi_0]
  have fal : g_in σ z i c = false → ∃ x, (some (Value.int 0) : Option Value) = some (.int x) ∧ P x mem := fun q => am_eq h (by rw [q]; rfl)
  refine ⟨e32, fun q => fal ?_, fun q => ⟨e32, fun q1 => fal ?_, fun q1 => ⟨e32, fun q2 => fal ?_, fun q2 => ⟨e32, fun q3 => fal ?_, fun q3 => ⟨e32, fun q4 => fal ?_, fun q4 => am_eq h ?_⟩⟩⟩⟩⟩
  · simp [g_in, q]
  · unfold g_in; rw [decide_eq_false (by omega)]; simp
  · unfold g_in; rw [decide_eq_false (by omega)]; simp
  · unfold g_in; rw [decide_eq_false (by omega)]; simp
  · unfold g_in; rw [decide_eq_false (by omega)]; simp
  · have q' : s_al σ i c = true := by simpa using q
    unfold g_in; rw [decide_eq_true (by omega), q']; rfl
theorem c0_doClash {d : Nat} {mem : am_Mem} {P : Int32 → am_Mem → Prop} {σ : mp_S} {z : Int} {k i c j e : Nat} (hσ : s_ok σ) (hz1 : 1 ≤ z) (hz2 : z ≤ 6) (hB : Bx mem σ z k) (hik : i < k) (hjk : j < k) (hi : i < s_n σ) (hc : c < 4) (hj : j < s_n σ) (he : e < 4) (hg : mem 1 3 = iz (s_g σ))
    (h : P (bi (g_clash σ z i c j e)) mem) : am_Ci m0_doClash d [.ref 8, .int (nI (4 * i + c)), .int (nI (4 * j + e))] mem P := by
  have hn := hσ.1
  have hgg := hσ.2.2.2.2.1
  have e1 : vp_in (nI (4 * i + c)) 32 := vp_in_nI (by omega) (by omega)
  have c1 : (nI (4 * i + c)).toNatClampNeg = 4 * i + c := nI_clamp (by omega)
  have e2 : vp_in (nI (4 * j + e)) 32 := vp_in_nI (by omega) (by omega)
  have c2 : (nI (4 * j + e)).toNatClampNeg = 4 * j + e := nI_clamp (by omega)
  obtain ⟨r1, r2, r3, r4, r5, r6⟩ := g_rng hσ hz1 hz2 hi c
  obtain ⟨t1, t2, t3, t4, t5, t6⟩ := g_rng hσ hz1 hz2 hj e
  obtain ⟨f1, f2, f3, f4⟩ := (hB.2.2 i hik).2.2 c hc
  obtain ⟨g1, g2, g3, g4⟩ := (hB.2.2 j hjk).2.2 e he
  refine am_ci rfl rfl rfl (sg0_doClash_0 ?_)
  rw [c1, c2, f1, f2, f3, f4, g1, g2, g3, g4, hg]
  rw [iz_add, iz_add, iz_add, iz_add, iz_le (by omega) (by omega) (by omega) (by omega), iz_le (by omega) (by omega) (by omega) (by omega), iz_le (by omega) (by omega) (by omega) (by omega), iz_le (by omega) (by omega) (by omega) (by omega)]
  have fal : g_clash σ z i c j e = false → ∃ x, (some (Value.int 0) : Option Value) = some (.int x) ∧ P x mem := fun q => am_eq h (by rw [q]; rfl)
  refine ⟨e1, e2, fun q => fal ?_, fun q => ⟨e2, e1, fun q1 => fal ?_, fun q1 => ⟨e1, e2, fun q2 => fal ?_, fun q2 => ⟨e2, e1, fun q3 => fal ?_, fun q3 => am_eq h ?_⟩⟩⟩⟩
  · exact decide_eq_false (by omega)
  · exact decide_eq_false (by omega)
  · exact decide_eq_false (by omega)
  · exact decide_eq_false (by omega)
  · have : g_clash σ z i c j e = true := decide_eq_true (by omega)
    rw [this]; rfl
/-- a set of bits out of a test -/
def bs (f : Nat → Bool) : Nat → Int32
  | 0 => 0
  | k + 1 => if f k = true then bs f k ||| ((1 : Int32) <<< (nI k &&& 31)) else bs f k
theorem bt_one (k : Nat) (hk : k < 32) {i : Nat} (hi : i < 32) : bt ((1 : Int32) <<< (nI k &&& 31)) i = decide (i = k) := by
  rw [b_shl k hk 1 hi]
  have h1 : ∀ i, i < 32 → bt 1 i = decide (i = 0) := by decide +kernel
  rw [h1 _ (by omega)]
  by_cases h : k ≤ i
  · by_cases h2 : i = k
    · subst h2; simp
    · have : i - k ≠ 0 := by omega
      simp [h2, this]
  · have : ¬ i = k := by omega
    simp [h, this]
theorem bs_bt (f : Nat → Bool) : ∀ (k : Nat), k ≤ 32 → ∀ i, i < 32 → bt (bs f k) i = (decide (i < k) && f i) := by
  intro k
  induction k with
  | zero => intro _ i _; simp [bs, b_0]
  | succ k ih =>
    intro hk i hi
    unfold bs
    by_cases hf : f k = true
    · rw [if_pos hf, b_or, ih (by omega) i hi, bt_one k (by omega) hi]
      by_cases h : i = k
      · subst h; simp [hf]
      · have : (i < k + 1) = (i < k) := by simp; omega
        simp [h, this]
    · rw [if_neg hf, ih (by omega) i hi]
      by_cases h : i = k
      · subst h; simp [hf]
      · have : (i < k + 1) = (i < k) := by simp; omega
        simp [this]
theorem bs_congr {f g : Nat → Bool} : ∀ {k : Nat}, (∀ i, i < k → f i = g i) → bs f k = bs g k := by
  intro k
  induction k with
  | zero => intro _; rfl
  | succ k ih =>
    intro h
    unfold bs
    rw [h k (by omega), ih (fun i hi => h i (by omega))]
theorem bs_0 {f : Nat → Bool} {k : Nat} (hk : k ≤ 32) : bs f k = 0 ↔ ∀ i, i < k → f i = false := by
  constructor
  · intro h i hi
    have := bs_bt f k hk i (by omega)
    rw [h, b_0] at this
    simpa [hi] using this.symm
  · intro h
    apply b_ext
    intro i hi
    rw [bs_bt f k hk i hi, b_0]
    by_cases hik : i < k
    · simp [hik, h i hik]
    · simp [hik]
theorem sites_in {D : Nat} {Q : Option Value → am_Mem → Prop} {mem : am_Mem} {σ : mp_S} {z : Int} {i c : Nat} (hσ : s_ok σ) (hz1 : 1 ≤ z) (hz2 : z ≤ 6) (hB : Bx mem σ z (s_n σ)) (hN : mem 1 4 = nI (s_n σ)) (hi : i < s_n σ) (hc : c < 4)
    (k : Q (some (.int (bs (g_cov σ z i c) (s_n σ)))) mem) :
    ∀ (r o : Nat), o + r = s_n σ → am_J m0_sitesWithin D 4 [.ref 8, .int (nI (4 * i + c)), .int (bs (g_cov σ z i c) o), .int (nI o)] [] mem Q := by
  have hn := hσ.1
  have e1 : vp_in (nI (4 * i + c)) 32 := vp_in_nI (by omega) (by omega)
  have c1 : (nI (4 * i + c)).toNatClampNeg = 4 * i + c := nI_clamp (by omega)
  obtain ⟨r1, r2, r3, r4, r5, r6⟩ := g_rng hσ hz1 hz2 hi c
  obtain ⟨f1, f2, f3, f4⟩ := (hB.2.2 i hi).2.2 c hc
  intro r
  induction r with
  | zero =>
    intro o ho
    have : o = s_n σ := by omega
    subst this
    refine sg0_sitesWithin_4 ⟨fun _ => k, fun q => absurd ?_ q⟩
    rw [hN]; exact Int32.le_refl _
  | succ r ih =>
    intro o ho
    have e2 : vp_in (nI o) 8 := vp_in_nI (by omega) (by omega)
    have c2 : (nI o).toNatClampNeg = o := nI_clamp (by omega)
    obtain ⟨t1, t2, t3, t4, t5, t6⟩ := g_rng hσ hz1 hz2 (i := o) (by omega) 0
    obtain ⟨g9, g10, -⟩ := hB.2.2 o (by omega)
    have ih' := ih (o + 1) (by omega)
    have nx : ∀ b : Bool, g_cov σ z i c o = b → am_J m0_sitesWithin D 81 [.ref 8, .int (nI (4 * i + c)), .int (if b = true then bs (g_cov σ z i c) o ||| ((1 : Int32) <<< (nI o &&& 31)) else bs (g_cov σ z i c) o), .int (nI o)] [] mem Q := by
      intro b hb
      refine sg0_sitesWithin_81 ?_
      rw [nI_1]
      have : bs (g_cov σ z i c) (o + 1) = if b = true then bs (g_cov σ z i c) o ||| ((1 : Int32) <<< (nI o &&& 31)) else bs (g_cov σ z i c) o := by
        rw [← hb]; rfl
      rw [← this]; exact ih'
    have nf : g_cov σ z i c o = false → am_J m0_sitesWithin D 81 [.ref 8, .int (nI (4 * i + c)), .int (bs (g_cov σ z i c) o), .int (nI o)] [] mem Q := fun q => by simpa using nx false q
    refine sg0_sitesWithin_4 ⟨fun q => absurd q ?_, fun _ => ?_⟩
    · rw [hN, nI_leI (by omega) (by omega)]; omega
    · rw [c1, c2, f1, f2, f3, f4, g9, g10]
      rw [iz_le (by omega) (by omega) (by omega) (by omega), iz_le (by omega) (by omega) (by omega) (by omega), iz_le (by omega) (by omega) (by omega) (by omega), iz_le (by omega) (by omega) (by omega) (by omega)]
      refine ⟨e1, e2, fun q => nf ?_, fun q => ⟨e2, e1, fun q1 => nf ?_, fun q1 => ⟨e1, e2, fun q2 => nf ?_, fun q2 => ⟨e2, e1, fun q3 => nf ?_, fun q3 => ?_⟩⟩⟩⟩
      · exact decide_eq_false (by omega)
      · exact decide_eq_false (by omega)
      · exact decide_eq_false (by omega)
      · exact decide_eq_false (by omega)
      · have : g_cov σ z i c o = true := decide_eq_true (by omega)
        simpa using nx true this
theorem c0_sitesWithin {d : Nat} {mem : am_Mem} {P : Int32 → am_Mem → Prop} {σ : mp_S} {z : Int} {i c : Nat} (hσ : s_ok σ) (hz1 : 1 ≤ z) (hz2 : z ≤ 6) (hB : Bx mem σ z (s_n σ)) (hN : mem 1 4 = nI (s_n σ)) (hi : i < s_n σ) (hc : c < 4)
    (h : P (bs (g_cov σ z i c) (s_n σ)) mem) : am_Ci m0_sitesWithin d [.ref 8, .int (nI (4 * i + c))] mem P :=
  am_ci rfl rfl rfl (sg0_sitesWithin_0 (sites_in hσ hz1 hz2 hB hN hi hc (am_eq h rfl) (s_n σ) 0 (by omega)))
def aw0 : Nat → Bool := fun _ => false
theorem g_free0 (σ : mp_S) (z : Int) (i c : Nat) : g_free σ z aw0 i c = (g_in σ z i c && (List.range (s_n σ)).all (fun o => !g_cov σ z i c o)) := by simp [g_free, aw0]
theorem c0_isFree {d : Nat} {mem : am_Mem} {P : Int32 → am_Mem → Prop} {σ : mp_S} {z : Int} {i c : Nat} (hσ : s_ok σ) (hz1 : 1 ≤ z) (hz2 : z ≤ 6) (hB : Bx mem σ z (s_n σ)) (hN : mem 1 4 = nI (s_n σ)) (hi : i < s_n σ) (hc : c < 4) (ha : mem 7 (4 * i + c) = bi (s_al σ i c))
    (h : P (bi (g_free σ z aw0 i c)) mem) : am_Ci m0_isFree (d + 1) [.ref 8, .int (nI (4 * i + c))] mem P := by
  have hn := hσ.1
  refine am_ci rfl rfl rfl (sg0_isFree_0 (c0_mayStand hσ hz1 hz2 hB hi hi hc ha ⟨fun q => am_eq h ?_, fun q => c0_sitesWithin hσ hz1 hz2 hB hN hi hc ⟨fun q1 => am_eq h ?_, fun q1 => am_eq h ?_⟩⟩))
  · rw [bi_0] at q; rw [g_free0, q]; rfl
  · rw [bi_n0] at q
    have : ¬ ((List.range (s_n σ)).all (fun o => !g_cov σ z i c o)) = true := fun w => q1 ((bs_0 (by omega)).mpr (fun o ho => by
      have := List.all_eq_true.mp w o (List.mem_range.mpr ho)
      simpa using this))
    rw [g_free0, q, Bool.eq_false_iff.mpr this]; rfl
  · rw [bi_n0] at q
    rw [bs_0 (by omega)] at q1
    have : ((List.range (s_n σ)).all (fun o => !g_cov σ z i c o)) = true := List.all_eq_true.mpr (fun o ho => by rw [q1 o (List.mem_range.mp ho)]; rfl)
    rw [g_free0, q, this]; rfl
