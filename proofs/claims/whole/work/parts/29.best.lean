/-! THE BEST LAYOUT, purely: SITE by SITE, by CORNER, NONE (4) behind all; of like ones the first -/
def tlB {β : Type} (f : Nat → β → β) : Nat → Nat → β → β
  | 0, _, b => b
  | t + 1, c, b => tlB f t (c + 1) (f c b)
theorem tlB_nxt {β : Type} {f : Nat → Bool} {g : Nat → β → β} : ∀ (t c : Nat) (b : β), tlB (fun c b => if f c = true then g c b else b) t c b = (if nxt f t c < c + t then tlB (fun c b => if f c = true then g c b else b) (c + t - nxt f t c - 1) (nxt f t c + 1) (g (nxt f t c) b) else b) := by
  intro t
  induction t with
  | zero => intro c b; simp [tlB, nxt]
  | succ t ih =>
    intro c b
    simp only [tlB, nxt]
    by_cases h : f c = true
    · simp only [h, if_true]
      rw [if_pos (by omega), show c + (t + 1) - c - 1 = t by omega]
    · simp only [h, if_false, Bool.false_eq_true]
      rw [ih (c + 1), show c + 1 + t = c + (t + 1) by omega]
theorem tlB_congr {β : Type} {f g : Nat → β → β} : ∀ {t c : Nat} {b : β}, (∀ i b, c ≤ i → i < c + t → f i b = g i b) → tlB f t c b = tlB g t c b := by
  intro t
  induction t with
  | zero => intro c b _; rfl
  | succ t ih => intro c b h; simp only [tlB]; rw [h c b (by omega) (by omega)]; exact ih (fun i b h1 h2 => h i b (by omega) (by omega))
abbrev Bs : Type := Int × (Nat → Nat)
def bst (K : Nat → Nat → Bool) (wo : Nat → Int) : Nat → Nat → (Nat → Bool) → (Nat → Nat) → Int → Bs → Bs
  | 0, _, _, row, w, b => if b.1 < w then (w, row) else b
  | r + 1, s, o, row, w, b => bst K wo r (s + 1) o (rs row s 4) w (tlB (fun c b => if o (4 * s + c) = true then bst K wo r (s + 1) (mn K (4 * s + c) o) (rs row s c) (w + wo s) b else b) 4 0 b)
theorem bst_congr {K : Nat → Nat → Bool} {wo : Nat → Int} : ∀ {r s : Nat} {o o' : Nat → Bool} {row : Nat → Nat} {w : Int} {b : Bs}, (∀ k, 4 * s ≤ k → k < 4 * (s + r) → o k = o' k) → bst K wo r s o row w b = bst K wo r s o' row w b := by
  intro r
  induction r with
  | zero => intro s o o' row w b _; rfl
  | succ r ih =>
    intro s o o' row w b h
    simp only [bst]
    rw [ih (o' := o') (fun k h1 h2 => h k (by omega) (by omega))]
    congr 1
    apply tlB_congr
    intro c b _ hc
    rw [h (4 * s + c) (by omega) (by omega)]
    split
    · apply ih
      intro k h1 h2
      simp only [mn]
      rw [h k (by omega) (by omega)]
    · rfl
/-- the most that the last r SITES can be worth -/
def imax (a b : Int) : Int := if a < b then b else a
def tlX (f : Nat → Int) : Nat → Nat → Int → Int
  | 0, _, z => z
  | t + 1, c, z => imax (f c) (tlX f t (c + 1) z)
def mx (K : Nat → Nat → Bool) (wo : Nat → Int) : Nat → Nat → (Nat → Bool) → Int
  | 0, _, _ => 0
  | r + 1, s, o => tlX (fun c => if o (4 * s + c) = true then wo s + mx K wo r (s + 1) (mn K (4 * s + c) o) else mx K wo r (s + 1) o) 4 0 (mx K wo r (s + 1) o)
theorem tlX_ge {f : Nat → Int} : ∀ {t c : Nat} {z : Int}, z ≤ tlX f t c z ∧ ∀ i, c ≤ i → i < c + t → f i ≤ tlX f t c z := by
  intro t
  induction t with
  | zero => intro c z; exact ⟨Int.le_refl _, fun i h1 h2 => absurd h2 (by omega)⟩
  | succ t ih =>
    intro c z
    obtain ⟨h1, h2⟩ := ih (c := c + 1) (z := z)
    simp only [tlX, imax]
    refine ⟨by split <;> omega, fun i h3 h4 => ?_⟩
    by_cases hic : i = c
    · subst hic; split <;> omega
    · have := h2 i (by omega) (by omega); split <;> omega
theorem tlX_le {f : Nat → Int} {m : Int} : ∀ {t c : Nat} {z : Int}, z ≤ m → (∀ i, c ≤ i → i < c + t → f i ≤ m) → tlX f t c z ≤ m := by
  intro t
  induction t with
  | zero => intro c z h _; exact h
  | succ t ih =>
    intro c z h1 h2
    have h3 := ih (c := c + 1) h1 (fun i h4 h5 => h2 i (by omega) (by omega))
    have h6 := h2 c (by omega) (by omega)
    simp only [tlX, imax]; split <;> assumption
theorem mx_mono {K : Nat → Nat → Bool} {wo : Nat → Int} : ∀ {r s : Nat} {o o' : Nat → Bool}, (∀ i, s ≤ i → i < s + r → 1 ≤ wo i) → (∀ k, 4 * s ≤ k → k < 4 * (s + r) → o k = true → o' k = true) → mx K wo r s o ≤ mx K wo r s o' := by
  intro r
  induction r with
  | zero => intro s o o' _ _; exact Int.le_refl _
  | succ r ih =>
    intro s o o' hw h
    have hb := ih (s := s + 1) (o := o) (o' := o') (fun i h1 h2 => hw i (by omega) (by omega)) (fun k h1 h2 hk => h k (by omega) (by omega) hk)
    simp only [mx]
    obtain ⟨g1, g2⟩ := tlX_ge (f := fun c => if o' (4 * s + c) = true then wo s + mx K wo r (s + 1) (mn K (4 * s + c) o') else mx K wo r (s + 1) o') (t := 4) (c := 0) (z := mx K wo r (s + 1) o')
    refine tlX_le (by omega) (fun c h1 h2 => ?_)
    have g := g2 c h1 h2
    by_cases hc : o (4 * s + c) = true
    · simp only [hc, if_true]
      have hc' := h (4 * s + c) (by omega) (by omega) hc
      simp only [hc', if_true] at g
      have := ih (s := s + 1) (o := mn K (4 * s + c) o) (o' := mn K (4 * s + c) o') (fun i h1 h2 => hw i (by omega) (by omega)) (fun k h3 h4 hk => by
        simp only [mn, Bool.and_eq_true] at hk ⊢
        exact ⟨h k (by omega) (by omega) hk.1, hk.2⟩)
      omega
    · simp only [hc, if_false, Bool.false_eq_true]; omega
theorem mx_0 {K : Nat → Nat → Bool} {wo : Nat → Int} : ∀ {r s : Nat} {o : Nat → Bool}, 0 ≤ mx K wo r s o := by
  intro r
  induction r with
  | zero => intro s o; exact Int.le_refl _
  | succ r ih =>
    intro s o
    simp only [mx]
    have := (tlX_ge (f := fun c => if o (4 * s + c) = true then wo s + mx K wo r (s + 1) (mn K (4 * s + c) o) else mx K wo r (s + 1) o) (t := 4) (c := 0) (z := mx K wo r (s + 1) o)).1
    have := ih (s := s + 1) (o := o)
    omega
def rem (wo : Nat → Int) : Nat → Nat → Int
  | 0, _ => 0
  | r + 1, s => wo s + rem wo r (s + 1)
theorem mx_rem {K : Nat → Nat → Bool} {wo : Nat → Int} : ∀ {r s : Nat} {o : Nat → Bool}, (∀ i, s ≤ i → i < s + r → 1 ≤ wo i) → mx K wo r s o ≤ rem wo r s := by
  intro r
  induction r with
  | zero => intro s o _; exact Int.le_refl _
  | succ r ih =>
    intro s o hw
    have h0 := hw s (by omega) (by omega)
    have hw' : ∀ i, s + 1 ≤ i → i < s + 1 + r → 1 ≤ wo i := fun i h1 h2 => hw i (by omega) (by omega)
    simp only [mx, rem]
    refine tlX_le (by have := ih (o := o) hw'; omega) (fun c _ _ => ?_)
    split
    · have := ih (o := mn K (4 * s + c) o) hw'; omega
    · have := ih (o := o) hw'; omega
/-- the search keeps the greater of what it had and of what it can find; it leaves what it had, where it finds nothing greater -/
theorem bst_val {K : Nat → Nat → Bool} {wo : Nat → Int} : ∀ {r s : Nat} {o : Nat → Bool} {row : Nat → Nat} {w : Int} {b : Bs}, (∀ i, s ≤ i → i < s + r → 1 ≤ wo i) → (bst K wo r s o row w b).1 = imax b.1 (w + mx K wo r s o) ∧ (w + mx K wo r s o ≤ b.1 → bst K wo r s o row w b = b) := by
  intro r
  induction r with
  | zero =>
    intro s o row w b _
    simp only [bst, mx, imax, Int.add_zero]
    refine ⟨by split <;> rfl, fun h => by rw [if_neg (by omega)]⟩
  | succ r ih =>
    intro s o row w b hw
    have hw' : ∀ i, s + 1 ≤ i → i < s + 1 + r → 1 ≤ wo i := fun i h1 h2 => hw i (by omega) (by omega)
    have h0 := hw s (by omega) (by omega)
    -- the CORNERS
    have key : ∀ (t c : Nat) (b : Bs), (imax (tlB (fun c b => if o (4 * s + c) = true then bst K wo r (s + 1) (mn K (4 * s + c) o) (rs row s c) (w + wo s) b else b) t c b).1 (w + mx K wo r (s + 1) o) = imax b.1 (w + tlX (fun c => if o (4 * s + c) = true then wo s + mx K wo r (s + 1) (mn K (4 * s + c) o) else mx K wo r (s + 1) o) t c (mx K wo r (s + 1) o))) ∧ (w + tlX (fun c => if o (4 * s + c) = true then wo s + mx K wo r (s + 1) (mn K (4 * s + c) o) else mx K wo r (s + 1) o) t c (mx K wo r (s + 1) o) ≤ b.1 → tlB (fun c b => if o (4 * s + c) = true then bst K wo r (s + 1) (mn K (4 * s + c) o) (rs row s c) (w + wo s) b else b) t c b = b) := by
      intro t
      induction t with
      | zero => intro c b; exact ⟨rfl, fun _ => rfl⟩
      | succ t iht =>
        intro c b
        simp only [tlB, tlX]
        obtain ⟨k1, k2⟩ := iht (c + 1) (if o (4 * s + c) = true then bst K wo r (s + 1) (mn K (4 * s + c) o) (rs row s c) (w + wo s) b else b)
        obtain ⟨g1, -⟩ := tlX_ge (f := fun c => if o (4 * s + c) = true then wo s + mx K wo r (s + 1) (mn K (4 * s + c) o) else mx K wo r (s + 1) o) (t := t) (c := c + 1) (z := mx K wo r (s + 1) o)
        generalize tlX (fun c => if o (4 * s + c) = true then wo s + mx K wo r (s + 1) (mn K (4 * s + c) o) else mx K wo r (s + 1) o) t (c + 1) (mx K wo r (s + 1) o) = X at *
        by_cases hc : o (4 * s + c) = true
        · simp only [hc, if_true] at *
          obtain ⟨i1, i2⟩ := ih (s := s + 1) (o := mn K (4 * s + c) o) (row := rs row s c) (w := w + wo s) (b := b) hw'
          rw [k1, i1]
          refine ⟨?_, fun h => ?_⟩
          · simp only [imax]; repeat' split <;> omega
          · have h2 : w + wo s + mx K wo r (s + 1) (mn K (4 * s + c) o) ≤ b.1 := by simp only [imax] at h; split at h <;> omega
            have h3 : w + X ≤ b.1 := by simp only [imax] at h; split at h <;> omega
            rw [i2 h2] at k2 ⊢
            exact k2 h3
        · simp only [hc, if_false, Bool.false_eq_true] at *
          rw [k1]
          refine ⟨?_, fun h => ?_⟩
          · simp only [imax]; repeat' split <;> omega
          · have h3 : w + X ≤ b.1 := by simp only [imax] at h; split at h <;> omega
            exact k2 h3
    obtain ⟨k1, k2⟩ := key 4 0 b
    simp only [bst, mx]
    obtain ⟨i1, i2⟩ := ih (s := s + 1) (o := o) (row := rs row s 4) (w := w) (b := tlB (fun c b => if o (4 * s + c) = true then bst K wo r (s + 1) (mn K (4 * s + c) o) (rs row s c) (w + wo s) b else b) 4 0 b) hw'
    refine ⟨by rw [i1, k1], fun h => ?_⟩
    have k3 := k2 h
    rw [k3] at i2 ⊢
    refine i2 ?_
    obtain ⟨g1, -⟩ := tlX_ge (f := fun c => if o (4 * s + c) = true then wo s + mx K wo r (s + 1) (mn K (4 * s + c) o) else mx K wo r (s + 1) o) (t := 4) (c := 0) (z := mx K wo r (s + 1) o)
    omega
