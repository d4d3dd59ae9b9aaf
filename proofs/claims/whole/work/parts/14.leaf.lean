theorem c6_isIn {d : Nat} {mem : am_Mem} {P : Int32 → am_Mem → Prop} {v a b : Int32} (h : P (bi (decide (a.toInt ≤ v.toInt ∧ v.toInt ≤ b.toInt))) mem) : am_Ci m6_isIn d [.int v, .int a, .int b] mem P := by
  refine am_ci rfl rfl rfl (sg6_isIn_0 ⟨fun c => am_eq h ?_, fun c => ⟨fun c2 => am_eq h ?_, fun c2 => am_eq h ?_⟩⟩)
  · rw [Int32.lt_iff_toInt_lt] at c
    rw [decide_eq_false (by omega)]; rfl
  · rw [Int32.lt_iff_toInt_lt] at c c2
    rw [decide_eq_false (by omega)]; rfl
  · rw [Int32.lt_iff_toInt_lt] at c c2
    rw [decide_eq_true (by omega)]; rfl
theorem c6_isCorner {d : Nat} {mem : am_Mem} {P : Int32 → am_Mem → Prop} {v : Int32} (h : P (bi (decide (0 ≤ v.toInt ∧ v.toInt ≤ 3))) mem) : am_Ci m6_isCorner (d + 1) [.int v] mem P :=
  am_ci rfl rfl rfl (sg6_isCorner_0 (c6_isIn ⟨bi_01 _, am_eq h rfl⟩))
theorem c6_boxOf {d : Nat} {mem : am_Mem} {P : Int32 → am_Mem → Prop} {v c : Int32} (h : P (4 * v + c) mem) : am_Ci m6_boxOf d [.int v, .int c] mem P :=
  am_ci rfl rfl rfl (sg6_boxOf_0 (am_eq h rfl))
theorem c6_boxesOf {d : Nat} {mem : am_Mem} {P : Int32 → am_Mem → Prop} {v : Int32} (h : P (15 <<< ((4 * v + 0) &&& 31)) mem) : am_Ci m6_boxesOf (d + 1) [.int v] mem P :=
  am_ci rfl rfl rfl (sg6_boxesOf_0 (c6_boxOf (am_eq h rfl)))
theorem bit_one (x : Int32) (n : Nat) (hn : n < 32) : ((x.toUInt32 >>> ((nI n).toUInt32 &&& Int32.toUInt32 31)).toInt32 &&& 1) = 1 ↔ bt x n = true := by
  have key : ∀ i, i < 32 → bt ((x.toUInt32 >>> ((nI n).toUInt32 &&& Int32.toUInt32 31)).toInt32 &&& 1) i = (decide (i = 0) && bt x n) := by
    intro i hi
    rw [b_and, b_ushr n hn]
    have h1 : bt 1 i = decide (i = 0) := (by decide +kernel : ∀ i, i < 32 → bt 1 i = decide (i = 0)) i hi
    rw [h1]
    by_cases h0 : i = 0
    · subst h0; simp
    · simp [h0]
  constructor
  · intro h
    have := key 0 (by omega)
    rw [h] at this
    simpa [show bt 1 0 = true by decide +kernel] using this.symm
  · intro h
    apply b_ext
    intro i hi
    rw [key i hi, h]
    simpa using ((by decide +kernel : ∀ i, i < 32 → bt 1 i = decide (i = 0)) i hi).symm
theorem c6_hasBit {d : Nat} {mem : am_Mem} {P : Int32 → am_Mem → Prop} {v : Int32} {i : Nat} (hi : i < 32) (h : P (bi (bt v i)) mem) : am_Ci m6_hasBit d [.int v, .int (nI i)] mem P := by
  refine am_ci rfl rfl rfl (sg6_hasBit_0 ⟨fun c => am_eq h ?_, fun c => am_eq h ?_⟩)
  · rw [bit_one v i hi] at c
    rw [Bool.eq_false_iff.mpr c]; rfl
  · rw [bit_one v i hi] at c
    rw [c]; rfl
theorem c6_toInt {d : Nat} {mem : am_Mem} {P : Int32 → am_Mem → Prop} {b : Bool} (h : P (bi b) mem) : am_Ci m6_toInt d [.int (bi b)] mem P := by
  refine am_ci rfl rfl rfl (sg6_toInt_0 ⟨fun c => am_eq h ?_, fun c => am_eq h ?_⟩)
  · rw [bi_0] at c; rw [c]; rfl
  · rw [bi_n0] at c; rw [c]; rfl
/-- how wide a box is: told times SIZE by 10, 1 at least -/
def bxd (sz l : Int) : Int := if 1 < l * sz / 10 then l * sz / 10 else 1
theorem bxd_rng {sz l : Int} (h1 : 1 ≤ sz) (h2 : sz ≤ 40) (h3 : 1 ≤ l) (h4 : l ≤ 60) : 1 ≤ bxd sz l ∧ bxd sz l ≤ 240 := by
  have h5 : l * sz ≤ 60 * 40 := Int.mul_le_mul h4 h2 (by omega) (by omega)
  unfold bxd
  split <;> omega
theorem bxd_iz {sz l : Int} (h1 : 1 ≤ sz) (h2 : sz ≤ 40) (h3 : 1 ≤ l) (h4 : l ≤ 60) : (if (1 : Int32) < (iz l * iz sz) / 10 then (iz l * iz sz) / 10 else 1) = iz (bxd sz l) := by
  have h5 : l * sz ≤ 60 * 40 := Int.mul_le_mul h4 h2 (by omega) (by omega)
  have h6 : 0 ≤ l * sz := Int.mul_nonneg (by omega) (by omega)
  rw [iz_mul, show (10 : Int32) = iz 10 from rfl, iz_div h6 (by omega) (by omega) (by omega), show (1 : Int32) = iz 1 from rfl]
  unfold bxd
  have h7 : l * sz / 10 < 2147483648 := by omega
  by_cases h : 1 < l * sz / 10
  · rw [if_pos h, if_pos ((iz_lt (by omega) (by omega) (by omega) h7).mpr h)]
  · rw [if_neg h, if_neg (fun q => h ((iz_lt (by omega) (by omega) (by omega) h7).mp q))]
theorem c6_sized {d : Nat} {mem : am_Mem} {P : Int32 → am_Mem → Prop} {sz l : Int} (h1 : 1 ≤ sz) (h2 : sz ≤ 40) (h3 : 1 ≤ l) (h4 : l ≤ 60) (h : P (iz (bxd sz l)) mem) : am_Ci m6_sized (d + 1) [.int (iz l), .int (iz sz)] mem P :=
  am_ci rfl rfl rfl (sg6_sized_0 (am_eq h (bxd_iz h1 h2 h3 h4)))
theorem lgc_lt (x y : Int64) : lg_cmp x y < 0 ↔ x.toInt < y.toInt := by
  unfold lg_cmp
  by_cases h1 : x > y
  · rw [if_pos h1]
    have := Int64.lt_iff_toInt_lt.mp h1
    constructor
    · intro h; exact absurd h (by decide)
    · intro h; omega
  · rw [if_neg h1]
    have h2 : ¬ y.toInt < x.toInt := fun q => h1 (Int64.lt_iff_toInt_lt.mpr q)
    by_cases h3 : x = y
    · subst h3
      simp
    · rw [if_neg h3]
      have h4 : ¬ x.toInt = y.toInt := fun q => h3 (Int64.toInt_inj.mp q)
      constructor
      · intro _; omega
      · intro _; decide
theorem lgc_gt (x y : Int64) : 0 < lg_cmp x y ↔ y.toInt < x.toInt := by
  unfold lg_cmp
  by_cases h1 : x > y
  · rw [if_pos h1]
    have := Int64.lt_iff_toInt_lt.mp h1
    constructor
    · intro _; exact this
    · intro _; decide
  · rw [if_neg h1]
    have h2 : ¬ y.toInt < x.toInt := fun q => h1 (Int64.lt_iff_toInt_lt.mpr q)
    constructor
    · intro h
      exfalso
      split at h <;> exact absurd h (by decide)
    · intro h; exact absurd h h2
theorem c7_in {d : Nat} {mem : am_Mem} {P : Int32 → am_Mem → Prop} {v a b : Int64} (h : P (bi (decide (a.toInt ≤ v.toInt ∧ v.toInt ≤ b.toInt))) mem) : am_Ci m7_in d [.long v, .long a, .long b] mem P := by
  refine am_ci rfl rfl rfl (sg7_in_0 ⟨fun c => am_eq h ?_, fun c => ⟨fun c2 => am_eq h ?_, fun c2 => am_eq h ?_⟩⟩)
  · rw [lgc_lt] at c
    rw [decide_eq_false (by omega)]; rfl
  · rw [lgc_lt] at c
    rw [lgc_gt] at c2
    rw [decide_eq_false (by omega)]; rfl
  · rw [lgc_lt] at c
    rw [lgc_gt] at c2
    rw [decide_eq_true (by omega)]; rfl
