/-! AT THE EDGE, purely -/
/-- two LINES have a point together -/
def lc (σ : mp_S) (a : Nat) (h : Int) (b : Nat) (g : Int) : Bool := decide (h = g ∨ (s_x σ b ≤ s_x σ a ∧ ((s_y σ a ≤ g ∧ g ≤ h) ∨ (h ≤ g ∧ g ≤ s_y σ a))) ∨ (s_x σ a ≤ s_x σ b ∧ ((s_y σ b ≤ h ∧ h ≤ g) ∨ (g ≤ h ∧ h ≤ s_y σ b))) ∨
  (s_x σ a = s_x σ b ∧ (((s_y σ b ≤ s_y σ a ∧ s_y σ a ≤ g) ∨ (g ≤ s_y σ a ∧ s_y σ a ≤ s_y σ b)) ∨ ((s_y σ a ≤ s_y σ b ∧ s_y σ b ≤ h) ∨ (h ≤ s_y σ b ∧ s_y σ b ≤ s_y σ a)))))
def ll (σ : mp_S) (s : Nat) (h : Int) : Int := (if s_y σ s < h then h - s_y σ s else s_y σ s - h) + s_W σ - s_x σ s
theorem php : ∀ (k : Nat) (f : Nat → Nat), (∀ i, i < k → f i < k) → (∀ i j, i < k → j < k → f i = f j → i = j) → ∀ p, p < k → ∃ i, i < k ∧ f i = p := by
  intro k
  induction k with
  | zero => intro f _ _ p hp; omega
  | succ k ih =>
    intro f h1 h2 p hp
    by_cases hk : f k = k
    · by_cases hpk : p = k
      · exact ⟨k, by omega, by omega⟩
      · obtain ⟨i, hi, e⟩ := ih f (fun i hi => by
          have a := h1 i (by omega)
          have b : f i ≠ k := fun q => by have := h2 i k (by omega) (by omega) (by omega); omega
          omega) (fun i j hi hj e => h2 i j (by omega) (by omega) e) p (by omega)
        exact ⟨i, by omega, e⟩
    · have hq := h1 k (by omega)
      have key := ih (fun i => if f i = k then f k else f i) (fun i hi => by
          show (if f i = k then f k else f i) < k
          have a := h1 i (by omega)
          split <;> omega) (fun i j hi hj e => by
          have e : (if f i = k then f k else f i) = (if f j = k then f k else f j) := e
          by_cases a : f i = k
          · by_cases b : f j = k
            · exact h2 i j (by omega) (by omega) (by omega)
            · rw [if_pos a, if_neg b] at e
              have := h2 k j (by omega) (by omega) e; omega
          · by_cases b : f j = k
            · rw [if_neg a, if_pos b] at e
              have := h2 i k (by omega) (by omega) e; omega
            · rw [if_neg a, if_neg b] at e
              exact h2 i j (by omega) (by omega) e)
      by_cases hpk : p = k
      · obtain ⟨i, hi, e⟩ := key (f k) (by omega)
        have e : (if f i = k then f k else f i) = f k := e
        by_cases a : f i = k
        · exact ⟨i, by omega, by omega⟩
        · rw [if_neg a] at e
          have := h2 i k (by omega) (by omega) e; omega
      · obtain ⟨i, hi, e⟩ := key p (by omega)
        have e : (if f i = k then f k else f i) = p := e
        by_cases a : f i = k
        · rw [if_pos a] at e; exact ⟨k, by omega, e⟩
        · rw [if_neg a] at e; exact ⟨i, by omega, e⟩
theorem php' {k : Nat} {f : Nat → Nat} (h : ∀ p, p < k → ∃ i, i < k ∧ f i = p) (h1 : ∀ i, i < k → f i < k) : ∀ i j, i < k → j < k → f i = f j → i = j := by
  have hex : ∀ p, ∃ i, p < k → i < k ∧ f i = p := fun p => by
    by_cases hp : p < k
    · obtain ⟨i, a, b⟩ := h p hp; exact ⟨i, fun _ => ⟨a, b⟩⟩
    · exact ⟨0, fun q => absurd q hp⟩
  have hg : ∀ p, p < k → Classical.choose (hex p) < k ∧ f (Classical.choose (hex p)) = p := fun p hp => Classical.choose_spec (hex p) hp
  generalize hgg : (fun p => Classical.choose (hex p)) = g at *
  have hg : ∀ p, p < k → g p < k ∧ f (g p) = p := fun p hp => by rw [← hgg]; exact hg p hp
  have hs := php k g (fun p hp => (hg p hp).1) (fun p q hp hq e => by rw [← (hg p hp).2, ← (hg q hq).2, e])
  intro i j hi hj e
  obtain ⟨p, hp, rfl⟩ := hs i hi
  obtain ⟨q, hq, rfl⟩ := hs j hj
  rw [(hg p hp).2, (hg q hq).2] at e
  rw [e]
/-- DEALS: line i gets place pl i -/
def prm (k : Nat) (pl : Nat → Nat) : Prop := ∀ p, p < k → ∃ i, i < k ∧ pl i = p
def sumI (f : Nat → Int) : Nat → Int
  | 0 => 0
  | c + 1 => sumI f c + f c
theorem sumI_congr {f g : Nat → Int} : ∀ {c : Nat}, (∀ i, i < c → f i = g i) → sumI f c = sumI g c := by
  intro c
  induction c with
  | zero => intro _; rfl
  | succ c ih => intro h; simp only [sumI]; rw [ih (fun i hi => h i (by omega)), h c (by omega)]
theorem sumI_rng {f : Nat → Int} {m : Int} : ∀ {c : Nat}, (∀ i, i < c → 0 ≤ f i ∧ f i ≤ m) → 0 ≤ sumI f c ∧ sumI f c ≤ c * m := by
  intro c
  induction c with
  | zero => intro _; simp [sumI]
  | succ c ih =>
    intro h
    have h1 := ih (fun i hi => h i (by omega))
    have h2 := h c (by omega)
    simp only [sumI]
    have : ((c + 1 : Nat) : Int) * m = c * m + m := by rw [Int.natCast_succ, Int.add_mul, Int.one_mul]
    omega
def hgt (σ : mp_S) (k p : Nat) : Int := (p : Int) * s_H σ / k
/-- pairs of LINE j with those before it that CROSS -/
def cbf (σ : mp_S) (mb : Nat → Nat) (k : Nat) (pl : Nat → Nat) (j : Nat) : Int := sumI (fun i => if lc σ (mb j) (hgt σ k (pl j)) (mb i) (hgt σ k (pl i)) = true then 1 else 0) j
def lnf (σ : mp_S) (mb : Nat → Nat) (k : Nat) (pl : Nat → Nat) (j : Nat) : Int := ll σ (mb j) (hgt σ k (pl j))
abbrev Dl : Type := Option (Int × Int × (Nat → Nat))
def nrm (k : Nat) (pl : Nat → Nat) : Nat → Nat := fun i => if i < k then pl i else 0
def updD (σ : mp_S) (mb : Nat → Nat) (k : Nat) (pl : Nat → Nat) (b : Dl) : Dl := match b with
  | none => some (sumI (cbf σ mb k pl) k, sumI (lnf σ mb k pl) k, nrm k pl)
  | some q => if sumI (cbf σ mb k pl) k < q.1 ∨ (sumI (cbf σ mb k pl) k = q.1 ∧ sumI (lnf σ mb k pl) k < q.2.1) then some (sumI (cbf σ mb k pl) k, sumI (lnf σ mb k pl) k, nrm k pl) else some q
noncomputable def leafD (σ : mp_S) (mb : Nat → Nat) (k : Nat) (pl : Nat → Nat) (b : Dl) : Dl := @ite _ (prm k pl) (Classical.propDecidable _) (updD σ mb k pl b) b
noncomputable def dl (σ : mp_S) (mb : Nat → Nat) (k : Nat) : Nat → Nat → (Nat → Nat) → Dl → Dl
  | 0, _, pl, b => leafD σ mb k pl b
  | r + 1, j, pl, b => tlB (fun p b => dl σ mb k r (j + 1) (rs pl j p) b) k 0 b
theorem cbf_congr {σ : mp_S} {mb : Nat → Nat} {k : Nat} {pl pl' : Nat → Nat} {j : Nat} (h : ∀ i, i ≤ j → pl i = pl' i) : cbf σ mb k pl j = cbf σ mb k pl' j := by
  unfold cbf
  apply sumI_congr
  intro i hi
  rw [h j (Nat.le_refl _), h i (by omega)]
theorem lnf_congr {σ : mp_S} {mb : Nat → Nat} {k : Nat} {pl pl' : Nat → Nat} {j : Nat} (h : pl j = pl' j) : lnf σ mb k pl j = lnf σ mb k pl' j := by unfold lnf; rw [h]
theorem updD_congr {σ : mp_S} {mb : Nat → Nat} {k : Nat} {pl pl' : Nat → Nat} {b : Dl} (h : ∀ i, i < k → pl i = pl' i) : updD σ mb k pl b = updD σ mb k pl' b := by
  have e1 : sumI (cbf σ mb k pl) k = sumI (cbf σ mb k pl') k := sumI_congr (fun j hj => cbf_congr (fun i hi => h i (by omega)))
  have e2 : sumI (lnf σ mb k pl) k = sumI (lnf σ mb k pl') k := sumI_congr (fun j hj => lnf_congr (h j hj))
  have e3 : nrm k pl = nrm k pl' := by
    funext i
    unfold nrm
    split
    · exact h i (by assumption)
    · rfl
  unfold updD
  rw [e1, e2, e3]
theorem prm_congr {k : Nat} {pl pl' : Nat → Nat} (h : ∀ i, i < k → pl i = pl' i) : prm k pl ↔ prm k pl' := by
  unfold prm
  constructor
  · intro a p hp
    obtain ⟨i, hi, e⟩ := a p hp
    exact ⟨i, hi, by rw [← h i hi]; exact e⟩
  · intro a p hp
    obtain ⟨i, hi, e⟩ := a p hp
    exact ⟨i, hi, by rw [h i hi]; exact e⟩
theorem leafD_pos {σ : mp_S} {mb : Nat → Nat} {k : Nat} {pl : Nat → Nat} {b : Dl} (h : prm k pl) : leafD σ mb k pl b = updD σ mb k pl b := by unfold leafD; rw [if_pos h]
theorem leafD_neg {σ : mp_S} {mb : Nat → Nat} {k : Nat} {pl : Nat → Nat} {b : Dl} (h : ¬ prm k pl) : leafD σ mb k pl b = b := by unfold leafD; rw [if_neg h]
theorem dl_congr {σ : mp_S} {mb : Nat → Nat} {k : Nat} : ∀ {r j : Nat} {pl pl' : Nat → Nat} {b : Dl}, j + r = k → (∀ i, i < j → pl i = pl' i) → dl σ mb k r j pl b = dl σ mb k r j pl' b := by
  intro r
  induction r with
  | zero =>
    intro j pl pl' b hj h
    simp only [dl]
    by_cases hp : prm k pl
    · rw [leafD_pos hp, leafD_pos ((prm_congr (fun i hi => h i (by omega))).mp hp), updD_congr (fun i hi => h i (by omega))]
    · rw [leafD_neg hp, leafD_neg (fun q => hp ((prm_congr (fun i hi => h i (by omega))).mpr q))]
  | succ r ih =>
    intro j pl pl' b hj h
    simp only [dl]
    apply tlB_congr
    intro p b _ _
    apply ih (by omega)
    intro i hi
    unfold rs
    split
    · rfl
    · exact h i (by omega)
/-- two LINES at one place: no DEAL -/
theorem dl_dup {σ : mp_S} {mb : Nat → Nat} {k : Nat} : ∀ {r j : Nat} {pl : Nat → Nat} {b : Dl}, j + r = k → (∀ i, i < j → pl i < k) → (∃ a c, a < c ∧ c < j ∧ pl a = pl c) → dl σ mb k r j pl b = b := by
  intro r
  induction r with
  | zero =>
    intro j pl b hj hb h
    simp only [dl]
    apply leafD_neg
    intro hp
    obtain ⟨a, c, h1, h2, h3⟩ := h
    have := php' hp (fun i hi => hb i (by omega)) a c (by omega) (by omega) h3
    omega
  | succ r ih =>
    intro j pl b hj hb h
    simp only [dl]
    obtain ⟨a, c, h1, h2, h3⟩ := h
    refine tlB_ok (I := fun x => x = b) (fun p x _ hp hx => ?_) rfl
    rw [hx]
    refine ih (by omega) (fun i hi => ?_) ⟨a, c, h1, by omega, ?_⟩
    · unfold rs; split
      · omega
      · exact hb i (by omega)
    · unfold rs; rw [if_neg (by omega), if_neg (by omega)]; exact h3
/-- no better one below this point -/
theorem dl_cut {σ : mp_S} {mb : Nat → Nat} {k : Nat} (hc : ∀ pl j, j < k → 0 ≤ cbf σ mb k pl j) (hl : ∀ (pl : Nat → Nat) j, j < k → (∀ i, i ≤ j → pl i < k) → 0 ≤ lnf σ mb k pl j) : ∀ {r j : Nat} {pl : Nat → Nat} {q : Int × Int × (Nat → Nat)}, j + r = k → (∀ i, i < j → pl i < k) → (q.1 < sumI (cbf σ mb k pl) j ∨ (sumI (cbf σ mb k pl) j = q.1 ∧ q.2.1 ≤ sumI (lnf σ mb k pl) j)) → dl σ mb k r j pl (some q) = some q := by
  intro r
  induction r with
  | zero =>
    intro j pl q hj hb h
    have : j = k := by omega
    subst this
    simp only [dl]
    by_cases hp : prm j pl
    · rw [leafD_pos hp]
      unfold updD
      simp only
      rw [if_neg (by omega)]
    · rw [leafD_neg hp]
  | succ r ih =>
    intro j pl q hj hb h
    simp only [dl]
    refine tlB_ok (I := fun x => x = some q) (fun p x _ hp hx => ?_) rfl
    rw [hx]
    have hb' : ∀ i, i < j + 1 → rs pl j p i < k := fun i hi => by
      unfold rs; split
      · omega
      · exact hb i (by omega)
    refine ih (by omega) hb' ?_
    have e1 : sumI (cbf σ mb k (rs pl j p)) j = sumI (cbf σ mb k pl) j := sumI_congr (fun i hi => cbf_congr (fun a ha => by unfold rs; rw [if_neg (by omega)]))
    have e2 : sumI (lnf σ mb k (rs pl j p)) j = sumI (lnf σ mb k pl) j := sumI_congr (fun i hi => lnf_congr (by unfold rs; rw [if_neg (by omega)]))
    have g1 := hc (rs pl j p) j (by omega)
    have g2 := hl (rs pl j p) j (by omega) (fun i hi => hb' i (by omega))
    simp only [sumI]
    rw [e1, e2]
    omega
/-! all places in their order are numbers to the base k -/
theorem tlB_app {β : Type} {f : Nat → β → β} : ∀ (a b c : Nat) (x : β), tlB f (a + b) c x = tlB f b (c + a) (tlB f a c x) := by
  intro a
  induction a with
  | zero => intro b c x; simp [tlB]
  | succ a ih =>
    intro b c x
    rw [show a + 1 + b = (a + b) + 1 by omega]
    simp only [tlB]
    rw [ih b (c + 1), show c + 1 + a = c + (a + 1) by omega]
theorem tlB_blocks {β : Type} {f g : Nat → β → β} {m : Nat} : ∀ (k c p : Nat) (x : β), (∀ q x, p ≤ q → q < p + k → tlB f m (c + (q - p) * m) x = g q x) → tlB f (k * m) c x = tlB g k p x := by
  intro k
  induction k with
  | zero => intro c p x _; simp [tlB]
  | succ k ih =>
    intro c p x h
    rw [show (k + 1) * m = m + k * m by rw [Nat.succ_mul]; omega, tlB_app]
    simp only [tlB]
    have h0 := h p x (by omega) (by omega)
    simp only [Nat.sub_self, Nat.zero_mul, Nat.add_zero] at h0
    rw [h0]
    refine ih (c + m) (p + 1) _ (fun q y h1 h2 => ?_)
    have := h q y (by omega) (by omega)
    rw [show c + m + (q - (p + 1)) * m = c + (q - p) * m by
      have e : q - p = (q - (p + 1)) + 1 := by omega
      rw [e, Nat.succ_mul]; omega]
    exact this
def dig (k code i : Nat) : Nat := code / k ^ (k - 1 - i) % k
theorem dig_lt {k : Nat} (hk : 0 < k) (code i : Nat) : dig k code i < k := Nat.mod_lt _ hk
theorem dl_codes {σ : mp_S} {mb : Nat → Nat} {k : Nat} (hk : 0 < k) : ∀ (r C : Nat) (b : Dl), r ≤ k → tlB (fun code b => leafD σ mb k (dig k code) b) (k ^ r) (C * k ^ r) b = dl σ mb k r (k - r) (fun i => C / k ^ (k - r - 1 - i) % k) b := by
  intro r
  induction r with
  | zero =>
    intro C b _
    simp only [Nat.pow_zero, Nat.mul_one, tlB, dl]
    rfl
  | succ r ih =>
    intro C b hr
    simp only [dl]
    rw [Nat.pow_succ, Nat.mul_comm (k ^ r) k]
    refine tlB_blocks k _ 0 b (fun p x h1 h2 => ?_)
    have e : C * (k * k ^ r) + (p - 0) * k ^ r = (C * k + p) * k ^ r := by
      rw [Nat.sub_zero, Nat.add_mul, Nat.mul_assoc]
    rw [e, ih (C * k + p) x (by omega)]
    rw [show k - (r + 1) + 1 = k - r by omega]
    apply dl_congr (by omega)
    intro i hi
    unfold rs
    by_cases his : i = k - (r + 1)
    · rw [if_pos his, show k - r - 1 - i = 0 by omega, Nat.pow_zero, Nat.div_one, Nat.mul_comm C k, Nat.mul_add_mod, Nat.mod_eq_of_lt (by omega)]
    · rw [if_neg his, show k - r - 1 - i = (k - (r + 1) - 1 - i) + 1 by omega, Nat.pow_succ, Nat.mul_comm (k ^ _) k, ← Nat.div_div_eq_div_mul]
      congr 2
      rw [Nat.mul_comm C k, Nat.mul_add_div hk, Nat.div_eq_of_lt (show p < k by omega)]; simp
