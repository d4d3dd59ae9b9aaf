/-- the frame of a search of the reference: its bits stay too -/
def Lk (mem0 mem : am_Mem) : Prop := md mem0 mem ∧ mem 30 16 = mem0 30 16 ∧ mem 40 = mem0 40
theorem Lk_rf (mem : am_Mem) : Lk mem mem := ⟨md_rf mem, rfl, rfl⟩
theorem Lk_set {m0 m : am_Mem} (h : Lk m0 m) {a i : Nat} {v : Int32} (h1 : 38 ≤ a) (h2 : a ≠ 40) : Lk m0 (am_set m a i v) :=
  ⟨md_set h.1 h1, by rw [am_set_na _ _ (by omega)]; exact h.2.1, by rw [am_set_na _ _ (Ne.symm h2)]; exact h.2.2⟩
theorem Lk_fld {m0 m : am_Mem} (h : Lk m0 m) {i : Nat} {v : Int32} (hi : ¬ (i ≤ 2 ∨ (10 ≤ i ∧ i ≤ 13))) (h2 : i ≠ 16) : Lk m0 (am_set m 30 i v) :=
  ⟨md_fld h.1 hi, by rw [am_set_nj _ _ (Ne.symm h2)]; exact h.2.1, by rw [am_set_na _ _ (by decide)]; exact h.2.2⟩
theorem Lk_if {m0 m1 m2 : am_Mem} {c : Prop} {hd : Decidable c} (h1 : Lk m0 m1) (h2 : Lk m0 m2) : Lk m0 (if c then m1 else m2) := by split <;> assumption
/-- the rows and the taken bits up to SITE s stay -/
def pre (s : Nat) (m m' : am_Mem) : Prop := (∀ i, i < s → m' 38 i = m 38 i) ∧ ∀ j, j ≤ s → m' 41 j = m 41 j
theorem pre_tr {s : Nat} {m1 m2 m3 : am_Mem} (h1 : pre s m1 m2) (h2 : pre s m2 m3) : pre s m1 m3 := ⟨fun i hi => (h2.1 i hi).trans (h1.1 i hi), fun j hj => (h2.2 j hj).trans (h1.2 j hj)⟩
theorem pre_le {s t : Nat} {m1 m2 : am_Mem} (h : pre s m1 m2) (ht : t ≤ s) : pre t m1 m2 := ⟨fun i hi => h.1 i (by omega), fun j hj => h.2 j (by omega)⟩
/-- the loop that counts a FULL LAYOUT -/
theorem layFull_81 {D : Nat} {Q : Option Value → am_Mem → Prop} {m0 : am_Mem} {n : Nat} {v1 v2 : Int32} {w : Nat → Int32} {row : Nat → Nat} (hn : n ≤ 8) (hN : m0 30 2 = nI n) (hr : ∀ i, i < n → row i ≤ 4 ∧ m0 38 i = nI (row i)) (hw : ∀ k, k < 4 * n → w k = m0 42 k)
    (k : ∀ mem, Lk m0 mem → mem 38 = m0 38 → mem 41 = m0 41 → mem 30 = m0 30 → (∀ k, k < 4 * n → mem 42 k = w k + (if row (k / 4) = k % 4 then 1 else 0)) → am_J m7_layFull (D + 1) 46 [.ref 30, .int v1, .int (v2 + (-1)), .null] [] mem Q) :
    ∀ (r s : Nat) (mem : am_Mem), s + r = n → Lk m0 mem → mem 38 = m0 38 → mem 41 = m0 41 → mem 30 = m0 30 → (∀ k, k < 4 * n → mem 42 k = w k + (if k / 4 < s ∧ row (k / 4) = k % 4 then 1 else 0)) → am_J m7_layFull (D + 1) 81 [.ref 30, .int v1, .int v2, .int (nI s)] [] mem Q := by
  intro r
  induction r with
  | zero =>
    intro s mem hs hL h38 h41 h30 h42
    have : s = n := by omega
    subst this
    refine sg7_layFull_81 ⟨fun _ => k mem hL h38 h41 h30 (fun k hk => ?_), fun q => absurd ?_ q⟩
    · rw [h42 k hk]
      have : k / 4 < s := by omega
      simp [this]
    · rw [h30, hN]; exact Int32.le_refl _
  | succ r ih =>
    intro s mem hs hL h38 h41 h30 h42
    obtain ⟨r1, r2⟩ := hr s (by omega)
    have e8 : vp_in (nI s) 8 := vp_in_nI (by omega) (by omega)
    have cs : (nI s).toNatClampNeg = s := nI_clamp (by omega)
    refine sg7_layFull_81 ⟨fun q => absurd q ?_, fun _ => ⟨e8, ?_⟩⟩
    · rw [h30, hN, nI_leI (by omega) (by omega)]; omega
    · rw [cs, h38, r2, k4m _ (by omega), box_nI, nI_clamp (by omega)]
      have e32 : vp_in (nI (4 * s + row s % 4)) 32 := vp_in_nI (by omega) (by omega)
      refine ⟨e32, e8, ?_⟩
      have z4 : (4 : Int32) ≤ nI (row s) ↔ 4 ≤ row s := by rw [show (4 : Int32) = nI 4 from rfl, nI_leI (by omega) (by omega)]
      rw [z4]
      have k122 : ∀ x : Int32, x = (if row s < 4 then 1 else 0) → am_J m7_layFull (D + 1) 122 [.ref 30, .int v1, .int v2, .int (nI s)] [.int x, .int (mem 42 (4 * s + row s % 4)), .int (nI (4 * s + row s % 4)), .ref 42] mem Q := by
        intro x hx
        refine sg7_layFull_122 ⟨e32, ?_⟩
        rw [nI_1, nI_clamp (by omega)]
        refine ih (s + 1) _ (by omega) (Lk_set hL (by omega) (by omega)) (by rw [am_set_na _ _ (by decide)]; exact h38) (by rw [am_set_na _ _ (by decide)]; exact h41) (by rw [am_set_na _ _ (by decide)]; exact h30) (fun k hk => ?_)
        by_cases hk0 : k = 4 * s + row s % 4
        · subst hk0
          rw [am_set_eq, h42 _ hk, hx]
          have d1 : (4 * s + row s % 4) / 4 = s := by omega
          have d2 : (4 * s + row s % 4) % 4 = row s % 4 := by omega
          rw [d1, d2, if_neg (by omega)]
          by_cases h4 : row s < 4
          · rw [if_pos h4, if_pos (by omega)]; simp
          · rw [if_neg h4, if_neg (by omega)]; simp
        · rw [am_set_nj _ _ hk0, h42 k hk]
          congr 1
          by_cases h1 : k / 4 < s
          · have : k / 4 < s + 1 := by omega
            simp [h1, this]
          · rw [if_neg (by omega), if_neg]
            rintro ⟨a, b⟩
            have : k / 4 = s := by omega
            rw [this] at b
            omega
      refine ⟨fun q => k122 0 (by rw [if_neg (by omega)]), fun q => k122 1 (by rw [if_pos (by omega)])⟩
/-- sums from CORNER c on -/
def tlN (f : Nat → Nat) : Nat → Nat → Nat
  | 0, _ => 0
  | t + 1, c => f c + tlN f t (c + 1)
theorem tl_sum (f : Nat → Nat) : tlN f 4 0 = sumN f 4 := by
  show f 0 + (f 1 + (f 2 + (f 3 + 0))) = 0 + f 0 + f 1 + f 2 + f 3
  omega
theorem tl_congr {f g : Nat → Nat} : ∀ {t c : Nat}, (∀ i, c ≤ i → i < c + t → f i = g i) → tlN f t c = tlN g t c := by
  intro t
  induction t with
  | zero => intro c _; rfl
  | succ t ih => intro c h; simp only [tlN]; rw [h c (by omega) (by omega), ih (fun i h1 h2 => h i (by omega) (by omega))]
theorem tl_nxt {f : Nat → Bool} {g : Nat → Nat} : ∀ (t c : Nat), tlN (fun c => if f c = true then g c else 0) t c = (if nxt f t c < c + t then g (nxt f t c) + tlN (fun c => if f c = true then g c else 0) (c + t - nxt f t c - 1) (nxt f t c + 1) else 0) := by
  intro t
  induction t with
  | zero => intro c; simp [tlN, nxt]
  | succ t ih =>
    intro c
    simp only [tlN, nxt]
    by_cases h : f c = true
    · simp only [h, if_true]
      rw [if_pos (by omega), show c + (t + 1) - c - 1 = t by omega]
    · simp only [h, if_false, Bool.false_eq_true]
      rw [ih (c + 1), show c + 1 + t = c + (t + 1) by omega, Nat.zero_add]
theorem nxt_lt {f : Nat → Bool} : ∀ {t c : Nat}, nxt f t c < c + t → f (nxt f t c) = true := by
  intro t
  induction t with
  | zero => intro c h; simp [nxt] at h
  | succ t ih =>
    intro c h
    simp only [nxt] at h ⊢
    by_cases hf : f c = true
    · simp only [hf, if_true]
    · simp only [hf, if_false, Bool.false_eq_true] at h ⊢
      exact ih (by omega)
/-- what box k gets in the count of the LAYOUTS below this point -/
def inc (K : Nat → Nat → Bool) (row : Nat → Nat) (r s : Nat) (o : Nat → Bool) (k : Nat) : Nat := if k / 4 < s then (if row (k / 4) = k % 4 then cnt K r s o else 0) else cnt K r s (only (k / 4) (k % 4) o)
def rs (row : Nat → Nat) (s c : Nat) : Nat → Nat := fun i => if i = s then c else row i
theorem inc_step (K : Nat → Nat → Bool) (row : Nat → Nat) (r s : Nat) (o : Nat → Bool) (k : Nat) : inc K row (r + 1) s o k = tlN (fun c => if o (4 * s + c) = true then inc K (rs row s c) r (s + 1) (mn K (4 * s + c) o) k else 0) 4 0 := by
  unfold inc
  by_cases h1 : k / 4 < s
  · rw [if_pos h1]
    have h2 : k / 4 < s + 1 := by omega
    have h3 : ¬ k / 4 = s := by omega
    by_cases h4 : row (k / 4) = k % 4
    · rw [if_pos h4]
      simp only [cnt]
      rw [← tl_sum]
      apply tl_congr
      intro c _ _
      simp [h2, rs, h3, h4]
    · rw [if_neg h4]
      have : tlN (fun c => if o (4 * s + c) = true then (if k / 4 < s + 1 then (if rs row s c (k / 4) = k % 4 then cnt K r (s + 1) (mn K (4 * s + c) o) else 0) else cnt K r (s + 1) (only (k / 4) (k % 4) (mn K (4 * s + c) o))) else 0) 4 0 = tlN (fun _ => 0) 4 0 := by
        apply tl_congr
        intro c _ _
        simp [h2, rs, h3, h4]
      rw [this]; rfl
  · rw [if_neg h1]
    simp only [cnt]
    rw [← tl_sum]
    apply tl_congr
    intro c _ hc
    by_cases h2 : k / 4 = s
    · have h3 : k / 4 < s + 1 := by omega
      have hk : k = 4 * s + k % 4 := by omega
      by_cases hcc : c = k % 4
      · have e1 : only (k / 4) (k % 4) o (4 * s + c) = o (4 * s + c) := by
          unfold only
          have : 4 * s + c = 4 * (k / 4) + k % 4 := by omega
          rw [decide_eq_true this]; simp
        rw [e1]
        simp only [h3, if_true, rs, h2, hcc]
        split
        · rw [if_pos (by omega)]
          apply cnt_congr
          intro j h4 h5
          unfold mn only
          have hj : ¬ j / 4 = s := by omega
          simp [hj]
        · rfl
      · have e1 : only (k / 4) (k % 4) o (4 * s + c) = false := by
          unfold only
          have a1 : ¬ 4 * s + c = 4 * (k / 4) + k % 4 := by omega
          have a2 : (4 * s + c) / 4 = k / 4 := by omega
          simp [a1, a2]
        rw [e1]
        simp [h3, rs, h2, hcc]
    · have h3 : ¬ k / 4 < s + 1 := by omega
      have e1 : only (k / 4) (k % 4) o (4 * s + c) = o (4 * s + c) := by
        unfold only
        have : ¬ (4 * s + c) / 4 = k / 4 := by omega
        simp [this]
      rw [e1]
      simp only [h3, if_false]
      split
      · congr 1
        funext j
        unfold mn only
        show (o j && (decide (j / 4 ≠ k / 4) || decide (j = 4 * (k / 4) + k % 4)) && !K (4 * s + c) j) = (o j && !K (4 * s + c) j && (decide (j / 4 ≠ k / 4) || decide (j = 4 * (k / 4) + k % 4)))
        generalize (decide (j / 4 ≠ k / 4) || decide (j = 4 * (k / 4) + k % 4)) = X
        cases o j <;> cases K (4 * s + c) j <;> cases X <;> rfl
      · rfl
