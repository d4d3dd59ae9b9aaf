/-! THE PUBLIC METHODS, class and reference side by side: the same answer, and the same state again -/
def Inv (mem : am_Mem) (σ : mp_S) : Prop := s_ok σ ∧ Ch mem σ ∧ Mo mem σ 1 0
def Pr (M6 M7 : am_M) (as : List Value) (mem : am_Mem) : Prop := ∀ P : Int32 → Int32 → am_Mem → Prop, (∀ x mem' σ', Inv mem' σ' → P x x mem') → am_Ci M6 20 (.ref 0 :: as) mem (fun r1 mem1 => am_Ci M7 20 (.ref 30 :: as) mem1 (fun r2 mem2 => P r1 r2 mem2))
theorem Inv.c {mem mem' : am_Mem} {σ : mp_S} (h : Inv mem σ) (hk : ∀ a, (a ≤ 7 ∨ a = 21 ∨ 30 ≤ a) → mem' a = mem a) : Inv mem' σ := ⟨h.1, h.2.1.keep (fun a ha => hk a (by omega)), h.2.2.keep (fun k _ => by rw [hk 30 (by omega)]) (fun a h1 _ => hk a (by omega))⟩
theorem Inv.m {mem mem' : am_Mem} {σ : mp_S} (h : Inv mem σ) (hk : md mem mem') : Inv mem' σ := ⟨h.1, h.2.1.keep (fun a ha => hk.1 a (by omega) (by omega)), h.2.2.md hk⟩
theorem Mo.ge {mem mem' : am_Mem} {σ : mp_S} {z : Int} {aw : Int32} (h : Mo mem σ z aw) (hk : ∀ a, 30 ≤ a → mem' a = mem a) : Mo mem' σ z aw := h.keep (fun k _ => by rw [hk 30 (by omega)]) (fun a h1 _ => hk a (by omega))
theorem z10 {A B : Prop} (b : B) : ((1 : Int32) = 0 → A) ∧ (¬ (1 : Int32) = 0 → B) := ⟨fun q => absurd q (by decide), fun _ => b⟩
theorem z10' {A B : Prop} (b : B) : (¬ (1 : Int32) = 0 → B) ∧ ((1 : Int32) = 0 → A) := ⟨fun _ => b, fun q => absurd q (by decide)⟩
theorem z00 {A B : Prop} (a : A) : ((0 : Int32) = 0 → A) ∧ (¬ (0 : Int32) = 0 → B) := ⟨fun _ => a, fun q => absurd rfl q⟩
theorem z00' {A B : Prop} (a : A) : (¬ (0 : Int32) = 0 → B) ∧ ((0 : Int32) = 0 → A) := ⟨fun q => absurd rfl q, fun _ => a⟩
section
variable {d : Nat} {mem : am_Mem} {P : Int32 → am_Mem → Prop}
theorem isIn_t {v a b : Int32} (h1 : a.toInt ≤ v.toInt) (h2 : v.toInt ≤ b.toInt) (h : P 1 mem) : am_Ci m6_isIn d [.int v, .int a, .int b] mem P := c6_isIn (by rw [decide_eq_true ⟨h1, h2⟩]; exact h)
theorem isIn_f {v a b : Int32} (h1 : ¬ (a.toInt ≤ v.toInt ∧ v.toInt ≤ b.toInt)) (h : P 0 mem) : am_Ci m6_isIn d [.int v, .int a, .int b] mem P := c6_isIn (by rw [decide_eq_false h1]; exact h)
theorem in_t {v : Int32} {a b : Int64} (h1 : a.toInt ≤ v.toInt) (h2 : v.toInt ≤ b.toInt) (h : P 1 mem) : am_Ci m7_in d [.long v.toInt64, .long a, .long b] mem P := c7_in (by rw [Int32.toInt_toInt64, decide_eq_true ⟨h1, h2⟩]; exact h)
theorem in_f {v : Int32} {a b : Int64} (h1 : ¬ (a.toInt ≤ v.toInt ∧ v.toInt ≤ b.toInt)) (h : P 0 mem) : am_Ci m7_in d [.long v.toInt64, .long a, .long b] mem P := c7_in (by rw [Int32.toInt_toInt64, decide_eq_false h1]; exact h)
theorem c1_has {n : Nat} {v : Int32} (hn : n ≤ 8) (hN : mem 1 4 = nI n) (h : P (bi (decide (0 ≤ v.toInt ∧ v.toInt < n))) mem) : am_Ci m1_has (d + 1) [.ref 1, .int v] mem P := by
  refine am_ci rfl rfl rfl (sg1_has_0 (c6_isIn ⟨bi_01 _, am_eq h ?_⟩))
  rw [hN, iz_nI, show (1 : Int32) = iz 1 from rfl, iz_sub, iz_toInt (by omega) (by omega)]
  congr 1
  apply decide_eq_decide.mpr
  show (0 : Int) ≤ _ ∧ _ ↔ _
  omega
theorem has_t {n i : Nat} (hn : n ≤ 8) (hN : mem 1 4 = nI n) (hi : i < n) (h : P 1 mem) : am_Ci m1_has (d + 1) [.ref 1, .int (nI i)] mem P := c1_has hn hN (by rw [nI_toInt (by omega), decide_eq_true (by omega)]; exact h)
theorem has_f {n : Nat} {v : Int32} (hn : n ≤ 8) (hN : mem 1 4 = nI n) (hv : ¬ (0 ≤ v.toInt ∧ v.toInt < n)) (h : P 0 mem) : am_Ci m1_has (d + 1) [.ref 1, .int v] mem P := c1_has hn hN (by rw [decide_eq_false hv]; exact h)
theorem isS_t {n i : Nat} (hn : n ≤ 8) (hN : mem 30 2 = nI n) (hi : i < n) (h : P 1 mem) : am_Ci m7_isSite (d + 1) [.ref 30, .int (nI i)] mem P := c7_isSite hn hN (by rw [nI_toInt (by omega), decide_eq_true (by omega)]; exact h)
theorem isS_f {n : Nat} {v : Int32} (hn : n ≤ 8) (hN : mem 30 2 = nI n) (hv : ¬ (0 ≤ v.toInt ∧ v.toInt < n)) (h : P 0 mem) : am_Ci m7_isSite (d + 1) [.ref 30, .int v] mem P := c7_isSite hn hN (by rw [decide_eq_false hv]; exact h)
theorem co6_t {c : Nat} (hc : c < 4) (h : P 1 mem) : am_Ci m6_isCorner (d + 1) [.int (nI c)] mem P := c6_isCorner (by rw [nI_toInt (by omega), decide_eq_true (by omega)]; exact h)
theorem co6_f {v : Int32} (hv : ¬ (0 ≤ v.toInt ∧ v.toInt < (4 : Nat))) (h : P 0 mem) : am_Ci m6_isCorner (d + 1) [.int v] mem P := c6_isCorner (by rw [decide_eq_false (by omega)]; exact h)
theorem co7_t {c : Nat} (hc : c < 4) (h : P 1 mem) : am_Ci m7_isCorner (d + 1) [.int (nI c)] mem P := c7_isCorner (by rw [nI_toInt (by omega), decide_eq_true (by omega)]; exact h)
theorem co7_f {v : Int32} (hv : ¬ (0 ≤ v.toInt ∧ v.toInt < (4 : Nat))) (h : P 0 mem) : am_Ci m7_isCorner (d + 1) [.int v] mem P := c7_isCorner (by rw [decide_eq_false (by omega)]; exact h)
theorem c1_holds {W H : Int} {x y : Int32} (hW : mem 1 0 = iz W) (hH : mem 1 1 = iz H) (w1 : 10 ≤ W ∧ W ≤ 400) (w2 : 10 ≤ H ∧ H ≤ 400) (h : P (bi (decide ((0 ≤ x.toInt ∧ x.toInt ≤ W) ∧ (0 ≤ y.toInt ∧ y.toInt ≤ H)))) mem) : am_Ci m1_holds (d + 1) [.ref 1, .int x, .int y] mem P := by
  refine am_ci rfl rfl rfl (sg1_holds_0 ?_)
  rw [hW]
  refine c6_isIn ⟨fun q => am_eq h ?_, fun q => ?_⟩
  · rw [bi_0, decide_eq_false_iff_not, iz_toInt (by omega) (by omega)] at q
    rw [decide_eq_false (fun w => q w.1)]; rfl
  · rw [hH]
    rw [bi_n0, decide_eq_true_eq, iz_toInt (by omega) (by omega)] at q
    refine c6_isIn ⟨fun q1 => am_eq h ?_, fun q1 => am_eq h ?_⟩
    · rw [bi_0, decide_eq_false_iff_not, iz_toInt (by omega) (by omega)] at q1
      rw [decide_eq_false (fun w => q1 w.2)]; rfl
    · rw [bi_n0, decide_eq_true_eq, iz_toInt (by omega) (by omega)] at q1
      rw [decide_eq_true ⟨q, q1⟩]; rfl
theorem hol_t {W H : Int} {x y : Int32} (hW : mem 1 0 = iz W) (hH : mem 1 1 = iz H) (w1 : 10 ≤ W ∧ W ≤ 400) (w2 : 10 ≤ H ∧ H ≤ 400) (hx : 0 ≤ x.toInt ∧ x.toInt ≤ W) (hy : 0 ≤ y.toInt ∧ y.toInt ≤ H) (h : P 1 mem) : am_Ci m1_holds (d + 1) [.ref 1, .int x, .int y] mem P := c1_holds hW hH w1 w2 (by rw [decide_eq_true ⟨hx, hy⟩]; exact h)
theorem hol_f {W H : Int} {x y : Int32} (hW : mem 1 0 = iz W) (hH : mem 1 1 = iz H) (w1 : 10 ≤ W ∧ W ≤ 400) (w2 : 10 ≤ H ∧ H ≤ 400) (hxy : ¬ ((0 ≤ x.toInt ∧ x.toInt ≤ W) ∧ (0 ≤ y.toInt ∧ y.toInt ≤ H))) (h : P 0 mem) : am_Ci m1_holds (d + 1) [.ref 1, .int x, .int y] mem P := c1_holds hW hH w1 w2 (by rw [decide_eq_false hxy]; exact h)
end
theorem sit (v : Int32) (n : Nat) : (∃ i, i < n ∧ v = nI i) ∨ ¬ (0 ≤ v.toInt ∧ v.toInt < n) := by
  by_cases h : 0 ≤ v.toInt ∧ v.toInt < n
  · refine Or.inl ⟨v.toInt.toNat, by omega, ?_⟩
    rw [iz_nI, Int.toNat_of_nonneg h.1, iz_self]
  · exact Or.inr h
theorem izl {a : Int} (h1 : -2147483648 ≤ a) (h2 : a < 2147483648) : (iz a).toInt64.toInt = a := iz_long h1 h2
theorem pr_map {mem : am_Mem} {σ : mp_S} (hI : Inv mem σ) (w h : Int32) : Pr m6_map m7_map [.int w, .int h] mem := by
  obtain ⟨hσ, hC, hM⟩ := hI
  intro P hP
  by_cases h1 : 10 ≤ w.toInt ∧ w.toInt ≤ 400
  · by_cases h2 : 10 ≤ h.toInt ∧ h.toInt ≤ 400
    · refine am_ci rfl rfl rfl (sg6_map_0 (isIn_t h1.1 h1.2 (z10 (isIn_t h2.1 h2.2 (z10' ⟨_, rfl, ?_⟩)))))
      refine am_ci rfl rfl rfl (sg7_map_0 (in_t h1.1 h1.2 (z10 (in_t h2.1 h2.2 (z10' ⟨_, rfl, ?_⟩)))))
      refine hP 1 _ ((0, w.toInt, h.toInt, s_z σ, s_g σ), σ.2) ⟨⟨Nat.zero_le _, h1, h2, hσ.2.2.2.1, hσ.2.2.2.2.1, fun i hi => absurd hi (Nat.not_lt_zero i)⟩, ⟨?_, ?_, ?_, ?_, ?_, fun i hi => absurd hi (Nat.not_lt_zero i)⟩, ⟨⟨?_, ?_, ?_, ?_, ?_, ?_, ?_⟩, fun i hi => absurd hi (Nat.not_lt_zero i)⟩⟩
      · simp [am_set, am_put, upd]; exact (iz_self w).symm
      · simp [am_set, am_put, upd]; exact (iz_self h).symm
      · simp [am_set, am_put, upd]; exact hC.2.2.1
      · simp [am_set, am_put, upd]; exact hC.2.2.2.1
      · simp [am_set, am_put, upd]; rfl
      · simp [am_set, am_put, upd]; exact (iz_self w).symm
      · simp [am_set, am_put, upd]; exact (iz_self h).symm
      · simp [am_set, am_put, upd]; rfl
      · simp [am_set, am_put, upd]; exact hM.1.2.2.2.1
      · simp [am_set, am_put, upd]; exact hM.1.2.2.2.2.1
      · simp [am_set, am_put, upd]; exact hM.1.2.2.2.2.2.1
      · simp [am_set, am_put, upd]; exact hM.1.2.2.2.2.2.2
    · exact am_ci rfl rfl rfl (sg6_map_0 (isIn_t h1.1 h1.2 (z10 (isIn_f h2 (z00' ⟨_, rfl, am_ci rfl rfl rfl (sg7_map_0 (in_t h1.1 h1.2 (z10 (in_f h2 (z00' ⟨_, rfl, hP _ _ σ ⟨hσ, hC, hM⟩⟩)))))⟩)))))
  · exact am_ci rfl rfl rfl (sg6_map_0 (isIn_f h1 (z00 ⟨_, rfl, am_ci rfl rfl rfl (sg7_map_0 (in_f h1 (z00 ⟨_, rfl, hP _ _ σ ⟨hσ, hC, hM⟩⟩)))⟩)))
theorem c1_add {d : Nat} {mem : am_Mem} {P : Int32 → am_Mem → Prop} {n : Nat} {v1 v2 v3 v4 v5 : Int32} (hn : n < 8) (hN : mem 1 4 = nI n)
    (h : ∀ m', (∀ a, a = 0 ∨ 8 ≤ a → m' a = mem a) → m' 1 4 = nI (n + 1) → (∀ j, j ≠ 4 → m' 1 j = mem 1 j) → (∀ j, m' 2 j = if j = n then v1 else mem 2 j) → (∀ j, m' 3 j = if j = n then v2 else mem 3 j) → (∀ j, m' 4 j = if j = n then v3 else mem 4 j) → (∀ j, m' 5 j = if j = n then v4 else mem 5 j) → (∀ j, m' 6 j = if j = n then v5 else mem 6 j) → (∀ j, m' 7 j = if 4 * n ≤ j ∧ j < 4 * n + 4 then 1 else mem 7 j) → P (nI n) m') :
    am_Ci m1_add (d + 1) [.ref 1, .int v1, .int v2, .int v3, .int v4, .int v5] mem P := by
  have e8 : vp_in (nI n) 8 := vp_in_nI (by omega) (by omega)
  refine am_ci rfl rfl rfl (sg1_add_0 ?_)
  rw [hN, nI_clamp (by omega)]
  refine ⟨e8, e8, e8, e8, e8, ?_⟩
  generalize hm0 : am_set (am_set (am_set (am_set (am_set mem 2 n v1) 3 n v2) 4 n v3) 5 n v4) 6 n v5 = m0
  have loop : ∀ (r c : Nat) (m : am_Mem), c + r = 4 → (∀ a, a ≠ 7 → m a = m0 a) → (∀ j, m 7 j = if 4 * n ≤ j ∧ j < 4 * n + c then 1 else mem 7 j) → am_J m1_add (d + 1) 51 [.ref 1, .null, .null, .null, .null, .null, .int (nI n), .int (nI c)] [] m (fun r mem' => ∃ x, r = some (.int x) ∧ P x mem') := by
    intro r
    induction r with
    | zero =>
      intro c m hc hm h7
      have : c = 4 := by omega
      subst this
      refine sg1_add_51 ⟨fun _ => ⟨_, rfl, h _ ?_ ?_ ?_ ?_ ?_ ?_ ?_ ?_ ?_⟩, fun q => absurd (by decide) q⟩
      · intro a ha
        rw [am_set_na _ _ (by omega), hm a (by omega), ← hm0]
        rw [am_set_na _ _ (by omega), am_set_na _ _ (by omega), am_set_na _ _ (by omega), am_set_na _ _ (by omega), am_set_na _ _ (by omega)]
      · rw [am_set_eq, hm 1 (by decide), ← hm0]
        simp only [am_set, am_put, upd]
        simp only [show ¬ (1 : Nat) = 6 by decide, show ¬ (1 : Nat) = 5 by decide, show ¬ (1 : Nat) = 4 by decide, show ¬ (1 : Nat) = 3 by decide, show ¬ (1 : Nat) = 2 by decide, if_false]
        rw [hN]; exact nI_1 n
      · intro j hj
        rw [am_set_nj _ _ hj, hm 1 (by decide), ← hm0]
        simp [am_set, am_put, upd]
      · intro j; rw [am_set_na _ _ (by decide), hm 2 (by decide), ← hm0]; simp [am_set, am_put, upd]
      · intro j; rw [am_set_na _ _ (by decide), hm 3 (by decide), ← hm0]; simp [am_set, am_put, upd]
      · intro j; rw [am_set_na _ _ (by decide), hm 4 (by decide), ← hm0]; simp [am_set, am_put, upd]
      · intro j; rw [am_set_na _ _ (by decide), hm 5 (by decide), ← hm0]; simp [am_set, am_put, upd]
      · intro j; rw [am_set_na _ _ (by decide), hm 6 (by decide), ← hm0]; simp [am_set, am_put, upd]
      · intro j; rw [am_set_na _ _ (by decide)]; exact h7 j
    | succ r ih =>
      intro c m hc hm h7
      refine sg1_add_51 ⟨fun q => absurd q (by rw [show (4 : Int32) = nI 4 from rfl, nI_leI (by omega) (by omega)]; omega), fun _ => c6_boxOf ?_⟩
      rw [box_nI, nI_clamp (by omega), nI_1]
      refine ⟨vp_in_nI (by omega) (by omega), ih (c + 1) _ (by omega) (fun a ha => by rw [am_set_na _ _ ha]; exact hm a ha) (fun j => ?_)⟩
      rw [am_set_at]
      by_cases hj : j = 4 * n + c
      · rw [if_pos hj, if_pos (by omega)]; rfl
      · rw [if_neg hj, h7 j]
        by_cases h8 : 4 * n ≤ j ∧ j < 4 * n + c
        · rw [if_pos h8, if_pos (by omega)]
        · rw [if_neg h8, if_neg (by omega)]
  refine loop 4 0 m0 (by omega) (fun _ _ => rfl) (fun j => ?_)
  rw [if_neg (by omega), ← hm0]
  simp [am_set, am_put, upd]
def s_site (σ : mp_S) (x y w h v : Int) : mp_S := ((s_n σ + 1, s_W σ, s_H σ, s_z σ, s_g σ), (hset (s_x σ) (s_n σ) x, hset (s_y σ) (s_n σ) y, hset (s_wd σ) (s_n σ) w, hset (s_ht σ) (s_n σ) h, hset (s_wo σ) (s_n σ) v), (fun i c => if i = s_n σ then true else s_al σ i c), hset (s_hd σ) (s_n σ) (-9))
theorem hset_eq (f : Nat → Int) (s : Nat) (v : Int) : hset f s v s = v := by simp [hset]
theorem hset_ne (f : Nat → Int) {s i : Nat} (v : Int) (h : i ≠ s) : hset f s v i = f i := by simp [hset, h]
theorem s_site_ok {σ : mp_S} (hσ : s_ok σ) (hn : s_n σ < 8) {x y w h v : Int} (hx : 0 ≤ x ∧ x ≤ s_W σ) (hy : 0 ≤ y ∧ y ≤ s_H σ) (hw : 1 ≤ w ∧ w ≤ 60) (hh : 1 ≤ h ∧ h ≤ 20) (hv : 1 ≤ v ∧ v ≤ 99) : s_ok (s_site σ x y w h v) := by
  refine ⟨hn, hσ.2.1, hσ.2.2.1, hσ.2.2.2.1, hσ.2.2.2.2.1, fun i hi => ?_⟩
  have hi : i < s_n σ + 1 := hi
  show (0 ≤ hset (s_x σ) (s_n σ) x i ∧ hset (s_x σ) (s_n σ) x i ≤ s_W σ) ∧ (0 ≤ hset (s_y σ) (s_n σ) y i ∧ hset (s_y σ) (s_n σ) y i ≤ s_H σ) ∧ (1 ≤ hset (s_wd σ) (s_n σ) w i ∧ hset (s_wd σ) (s_n σ) w i ≤ 60) ∧ (1 ≤ hset (s_ht σ) (s_n σ) h i ∧ hset (s_ht σ) (s_n σ) h i ≤ 20) ∧ (1 ≤ hset (s_wo σ) (s_n σ) v i ∧ hset (s_wo σ) (s_n σ) v i ≤ 99) ∧ (hset (s_hd σ) (s_n σ) (-9) i = -9 ∨ (0 ≤ hset (s_hd σ) (s_n σ) (-9) i ∧ hset (s_hd σ) (s_n σ) (-9) i ≤ 3))
  by_cases hin : i = s_n σ
  · subst hin
    simp only [hset_eq]
    exact ⟨hx, hy, hw, hh, hv, Or.inl trivial⟩
  · simp only [hset_ne _ _ hin]
    exact hσ.2.2.2.2.2 i (by omega)
theorem ite_iz {c : Prop} {hd : Decidable c} {v a : Int32} {x y : Int} (h1 : c → v = iz x) (h2 : ¬ c → a = iz y) : (if c then v else a) = iz (if c then x else y) := by
  by_cases h : c
  · rw [if_pos h, if_pos h]; exact h1 h
  · rw [if_neg h, if_neg h]; exact h2 h
theorem pr_site {mem : am_Mem} {σ : mp_S} (hI : Inv mem σ) (x y w h v : Int32) : Pr m6_site m7_site [.int x, .int y, .int w, .int h, .int v] mem := by
  obtain ⟨hσ, hC, hM⟩ := hI
  have hn := hσ.1
  have hW := hσ.2.1
  have hH := hσ.2.2.1
  intro P hP
  have out := hP (-2) mem σ ⟨hσ, hC, hM⟩
  have eW : (iz (s_W σ)).toInt64.toInt = s_W σ := izl (by omega) (by omega)
  have eH : (iz (s_H σ)).toInt64.toInt = s_H σ := izl (by omega) (by omega)
  by_cases hx : 0 ≤ x.toInt ∧ x.toInt ≤ s_W σ
  case neg =>
    refine am_ci rfl rfl rfl (sg6_site_0 (hol_f hC.1 hC.2.1 hW hH (fun q => hx q.1) (z00 ⟨_, rfl, am_ci rfl rfl rfl (sg7_site_0 ?_)⟩)))
    rw [hM.1.1]
    exact in_f (by rw [eW]; exact hx) (z00 ⟨_, rfl, out⟩)
  by_cases hy : 0 ≤ y.toInt ∧ y.toInt ≤ s_H σ
  case neg =>
    refine am_ci rfl rfl rfl (sg6_site_0 (hol_f hC.1 hC.2.1 hW hH (fun q => hy q.2) (z00 ⟨_, rfl, am_ci rfl rfl rfl (sg7_site_0 ?_)⟩)))
    rw [hM.1.1]
    refine in_t hx.1 (by rw [eW]; exact hx.2) (z10 ?_)
    rw [hM.1.2.1]
    exact in_f (by rw [eH]; exact hy) (z00 ⟨_, rfl, out⟩)
  by_cases hw : 1 ≤ w.toInt ∧ w.toInt ≤ 60
  case neg =>
    refine am_ci rfl rfl rfl (sg6_site_0 (hol_t hC.1 hC.2.1 hW hH hx hy (z10 (isIn_f hw (z00 ⟨_, rfl, am_ci rfl rfl rfl (sg7_site_0 ?_)⟩)))))
    rw [hM.1.1]
    refine in_t hx.1 (by rw [eW]; exact hx.2) (z10 ?_)
    rw [hM.1.2.1]
    exact in_t hy.1 (by rw [eH]; exact hy.2) (z10 (in_f hw (z00 ⟨_, rfl, out⟩)))
  by_cases hh : 1 ≤ h.toInt ∧ h.toInt ≤ 20
  case neg =>
    refine am_ci rfl rfl rfl (sg6_site_0 (hol_t hC.1 hC.2.1 hW hH hx hy (z10 (isIn_t hw.1 hw.2 (z10 (isIn_f hh (z00 ⟨_, rfl, am_ci rfl rfl rfl (sg7_site_0 ?_)⟩)))))))
    rw [hM.1.1]
    refine in_t hx.1 (by rw [eW]; exact hx.2) (z10 ?_)
    rw [hM.1.2.1]
    exact in_t hy.1 (by rw [eH]; exact hy.2) (z10 (in_t hw.1 hw.2 (z10 (in_f hh (z00 ⟨_, rfl, out⟩)))))
  by_cases hv : 1 ≤ v.toInt ∧ v.toInt ≤ 99
  case neg =>
    refine am_ci rfl rfl rfl (sg6_site_0 (hol_t hC.1 hC.2.1 hW hH hx hy (z10 (isIn_t hw.1 hw.2 (z10 (isIn_t hh.1 hh.2 (z10 (isIn_f hv (z00' ⟨_, rfl, am_ci rfl rfl rfl (sg7_site_0 ?_)⟩)))))))))
    rw [hM.1.1]
    refine in_t hx.1 (by rw [eW]; exact hx.2) (z10 ?_)
    rw [hM.1.2.1]
    exact in_t hy.1 (by rw [eH]; exact hy.2) (z10 (in_t hw.1 hw.2 (z10 (in_t hh.1 hh.2 (z10 (in_f hv (z00' ⟨_, rfl, out⟩)))))))
  refine am_ci rfl rfl rfl (sg6_site_0 (hol_t hC.1 hC.2.1 hW hH hx hy (z10 (isIn_t hw.1 hw.2 (z10 (isIn_t hh.1 hh.2 (z10 (isIn_t hv.1 hv.2 (z10' ?_)))))))))
  rw [hC.2.2.2.2.1, show (8 : Int32) = nI 8 from rfl, nI_ltI (by omega) (by omega)]
  by_cases h8 : s_n σ < 8
  case neg =>
    refine ⟨fun q => absurd q h8, fun _ => ⟨_, rfl, am_ci rfl rfl rfl (sg7_site_0 ?_)⟩⟩
    rw [hM.1.1]
    refine in_t hx.1 (by rw [eW]; exact hx.2) (z10 ?_)
    rw [hM.1.2.1]
    refine in_t hy.1 (by rw [eH]; exact hy.2) (z10 (in_t hw.1 hw.2 (z10 (in_t hh.1 hh.2 (z10 (in_t hv.1 hv.2 (z10' ⟨fun q => absurd ?_ q, fun _ => ⟨_, rfl, hP _ mem σ ⟨hσ, hC, hM⟩⟩⟩)))))))
    rw [hM.1.2.2.1, show s_n σ = 8 by omega]; rfl
  refine ⟨fun _ => c1_add h8 hC.2.2.2.2.1 (fun m1 k0 k4 kj k2 k3 k5 k6 k7 k8 => ⟨vp_in_nI (by omega) (by omega), ⟨_, rfl, am_ci rfl rfl rfl (sg7_site_0 ?_)⟩⟩), fun q => absurd h8 q⟩
  rw [nI_clamp (by omega)]
  generalize hm2 : am_set m1 21 (s_n σ) (-9) = m2'
  have q30 : ∀ a, 30 ≤ a → m2' a = mem a := fun a ha => by rw [← hm2, am_set_na _ _ (by omega)]; exact k0 a (by omega)
  have e8 : vp_in (nI (s_n σ)) 8 := vp_in_nI (by omega) (by omega)
  have hN2 : m2' 30 2 = nI (s_n σ) := by rw [q30 30 (by omega)]; exact hM.1.2.2.1
  rw [q30 30 (by omega), hM.1.1]
  refine in_t hx.1 (by rw [eW]; exact hx.2) (z10 ?_)
  rw [q30 30 (by omega), hM.1.2.1]
  refine in_t hy.1 (by rw [eH]; exact hy.2) (z10 (in_t hw.1 hw.2 (z10 (in_t hh.1 hh.2 (z10 (in_t hv.1 hv.2 (z10' ⟨fun _ => ?_, fun q => absurd q ?_⟩)))))))
  case refine_2 =>
    rw [hN2, show (8 : Int32) = nI 8 from rfl, nI_eq (by omega) (by omega)]; omega
  have t31 : ∀ (m : am_Mem) (i : Nat) (v : Int32), am_set m 31 i v 30 = m 30 := fun m i v => am_set_na _ _ (by decide)
  have t32 : ∀ (m : am_Mem) (i : Nat) (v : Int32), am_set m 32 i v 30 = m 30 := fun m i v => am_set_na _ _ (by decide)
  have t33 : ∀ (m : am_Mem) (i : Nat) (v : Int32), am_set m 33 i v 30 = m 30 := fun m i v => am_set_na _ _ (by decide)
  have t34 : ∀ (m : am_Mem) (i : Nat) (v : Int32), am_set m 34 i v 30 = m 30 := fun m i v => am_set_na _ _ (by decide)
  have t35 : ∀ (m : am_Mem) (i : Nat) (v : Int32), am_set m 35 i v 30 = m 30 := fun m i v => am_set_na _ _ (by decide)
  have t36 : ∀ (m : am_Mem) (i : Nat) (v : Int32), am_set m 36 i v 30 = m 30 := fun m i v => am_set_na _ _ (by decide)
  have t37 : ∀ (m : am_Mem) (i : Nat) (v : Int32), am_set m 37 i v 30 = m 30 := fun m i v => am_set_na _ _ (by decide)
  have cl : (nI (s_n σ)).toNatClampNeg = s_n σ := nI_clamp (by omega)
  simp only [t31, t32, t33, t34, t35, t36, t37, hN2, cl]
  refine ⟨e8, e8, e8, e8, e8, e8, e8, ⟨_, rfl, ?_⟩⟩
  rw [am_set_eq, show nI (s_n σ) + (1 : Int32) = nI (s_n σ + 1) from nI_1 _, show (1 : Int32) = nI 1 from rfl, pk_sub (by omega), Nat.add_sub_cancel]
  refine hP _ _ (s_site σ x.toInt y.toInt w.toInt h.toInt v.toInt) ⟨s_site_ok hσ h8 hx hy hw hh hv, ?_, ?_⟩
  · have key : ∀ a, a < 30 → (am_set (am_set (am_set (am_set (am_set (am_set (am_set (am_set m2' 31 (s_n σ) x) 32 (s_n σ) y) 33 (s_n σ) w) 34 (s_n σ) h) 35 (s_n σ) v) 36 (s_n σ) 15) 37 (s_n σ) (-9)) 30 2 (nI (s_n σ + 1))) a = m2' a := by
      intro a ha
      rw [am_set_na _ _ (by omega), am_set_na _ _ (by omega), am_set_na _ _ (by omega), am_set_na _ _ (by omega), am_set_na _ _ (by omega), am_set_na _ _ (by omega), am_set_na _ _ (by omega), am_set_na _ _ (by omega)]
    refine Ch.keep (mem := m2') ?_ (fun a ha => key a (by omega))
    have w1 : ∀ a, a ≠ 21 → m2' a = m1 a := fun a ha => by rw [← hm2, am_set_na _ _ ha]
    refine ⟨?_, ?_, ?_, ?_, ?_, fun i hi => ?_⟩
    · rw [w1 1 (by decide), kj 0 (by decide)]; exact hC.1
    · rw [w1 1 (by decide), kj 1 (by decide)]; exact hC.2.1
    · rw [w1 1 (by decide), kj 2 (by decide)]; exact hC.2.2.1
    · rw [w1 1 (by decide), kj 3 (by decide)]; exact hC.2.2.2.1
    · rw [w1 1 (by decide), k4]; rfl
    · have hi : i < s_n σ + 1 := hi
      rw [w1 2 (by decide), w1 3 (by decide), w1 4 (by decide), w1 5 (by decide), w1 6 (by decide), w1 7 (by decide), k2, k3, k5, k6, k7]
      have old : ¬ i = s_n σ → _ := fun q => hC.2.2.2.2.2 i (by omega)
      refine ⟨ite_iz (fun _ => (iz_self x).symm) (fun q => (old q).1), ite_iz (fun _ => (iz_self y).symm) (fun q => (old q).2.1), ite_iz (fun _ => (iz_self w).symm) (fun q => (old q).2.2.1), ite_iz (fun _ => (iz_self h).symm) (fun q => (old q).2.2.2.1), ite_iz (fun _ => (iz_self v).symm) (fun q => (old q).2.2.2.2.1), ?_, fun c hc => ?_⟩
      · rw [← hm2, am_set_at]
        refine ite_iz (fun _ => rfl) (fun q => ?_)
        rw [k0 21 (by omega)]; exact (old q).2.2.2.2.2.1
      · rw [k8]
        show _ = bi (if i = s_n σ then true else s_al σ i c)
        by_cases hin : i = s_n σ
        · rw [if_pos (by omega), if_pos hin]; rfl
        · rw [if_neg (by omega), if_neg hin]; exact (old hin).2.2.2.2.2.2 c hc
  · refine ⟨⟨?_, ?_, ?_, ?_, ?_, ?_, ?_⟩, fun i hi => ?_⟩
    · rw [am_set_nj _ _ (by decide)]; simp only [t31, t32, t33, t34, t35, t36, t37, q30 30 (Nat.le_refl _)]; exact hM.1.1
    · rw [am_set_nj _ _ (by decide)]; simp only [t31, t32, t33, t34, t35, t36, t37, q30 30 (Nat.le_refl _)]; exact hM.1.2.1
    · rw [am_set_eq]; rfl
    · rw [am_set_nj _ _ (by decide)]; simp only [t31, t32, t33, t34, t35, t36, t37, q30 30 (Nat.le_refl _)]; exact hM.1.2.2.2.1
    · rw [am_set_nj _ _ (by decide)]; simp only [t31, t32, t33, t34, t35, t36, t37, q30 30 (Nat.le_refl _)]; exact hM.1.2.2.2.2.1
    · rw [am_set_nj _ _ (by decide)]; simp only [t31, t32, t33, t34, t35, t36, t37, q30 30 (Nat.le_refl _)]; exact hM.1.2.2.2.2.2.1
    · rw [am_set_nj _ _ (by decide)]; simp only [t31, t32, t33, t34, t35, t36, t37, q30 30 (Nat.le_refl _)]; exact hM.1.2.2.2.2.2.2
    · have hi : i < s_n σ + 1 := hi
      have old : ¬ i = s_n σ → _ := fun q => hM.2 i (by omega)
      refine ⟨?_, ?_, ?_, ?_, ?_, ?_, fun c hc => ?_⟩
      · rw [am_set_na _ _ (by decide), am_set_na _ _ (by decide), am_set_na _ _ (by decide), am_set_na _ _ (by decide), am_set_na _ _ (by decide), am_set_na _ _ (by decide), am_set_na _ _ (by decide), am_set_at, q30 31 (by omega)]
        exact ite_iz (fun _ => (iz_self x).symm) (fun q => (old q).1)
      · rw [am_set_na _ _ (by decide), am_set_na _ _ (by decide), am_set_na _ _ (by decide), am_set_na _ _ (by decide), am_set_na _ _ (by decide), am_set_na _ _ (by decide), am_set_at, am_set_na _ _ (by decide), q30 32 (by omega)]
        exact ite_iz (fun _ => (iz_self y).symm) (fun q => (old q).2.1)
      · rw [am_set_na _ _ (by decide), am_set_na _ _ (by decide), am_set_na _ _ (by decide), am_set_na _ _ (by decide), am_set_na _ _ (by decide), am_set_at, am_set_na _ _ (by decide), am_set_na _ _ (by decide), q30 33 (by omega)]
        exact ite_iz (fun _ => (iz_self w).symm) (fun q => (old q).2.2.1)
      · rw [am_set_na _ _ (by decide), am_set_na _ _ (by decide), am_set_na _ _ (by decide), am_set_na _ _ (by decide), am_set_at, am_set_na _ _ (by decide), am_set_na _ _ (by decide), am_set_na _ _ (by decide), q30 34 (by omega)]
        exact ite_iz (fun _ => (iz_self h).symm) (fun q => (old q).2.2.2.1)
      · rw [am_set_na _ _ (by decide), am_set_na _ _ (by decide), am_set_na _ _ (by decide), am_set_at, am_set_na _ _ (by decide), am_set_na _ _ (by decide), am_set_na _ _ (by decide), am_set_na _ _ (by decide), q30 35 (by omega)]
        exact ite_iz (fun _ => (iz_self v).symm) (fun q => (old q).2.2.2.2.1)
      · rw [am_set_na _ _ (by decide), am_set_at, am_set_na _ _ (by decide), am_set_na _ _ (by decide), am_set_na _ _ (by decide), am_set_na _ _ (by decide), am_set_na _ _ (by decide), am_set_na _ _ (by decide), q30 37 (by omega)]
        exact ite_iz (fun _ => rfl) (fun q => (old q).2.2.2.2.2.1)
      · rw [am_set_na _ _ (by decide), am_set_na _ _ (by decide), am_set_at, am_set_na _ _ (by decide), am_set_na _ _ (by decide), am_set_na _ _ (by decide), am_set_na _ _ (by decide), am_set_na _ _ (by decide), q30 36 (by omega)]
        show _ = (if i = s_n σ then true else s_al σ i c)
        by_cases hin : i = s_n σ
        · rw [if_pos hin, if_pos hin]
          exact (by decide +kernel : ∀ c, c < 4 → bt 15 c = true) c hc
        · rw [if_neg hin, if_neg hin]; exact (old hin).2.2.2.2.2.2 c hc
