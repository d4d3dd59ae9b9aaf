/-! the pure search: boxes 4 * SITE + CORNER; o: which are still open; K: which take which away -/
def sumN (f : Nat → Nat) : Nat → Nat
  | 0 => 0
  | c + 1 => sumN f c + f c
theorem sumN_congr {f g : Nat → Nat} : ∀ {c : Nat}, (∀ i, i < c → f i = g i) → sumN f c = sumN g c := by
  intro c
  induction c with
  | zero => intro _; rfl
  | succ c ih => intro h; simp only [sumN]; rw [ih (fun i hi => h i (by omega)), h c (by omega)]
theorem sumN_le {f : Nat → Nat} {m : Nat} : ∀ {c : Nat}, (∀ i, i < c → f i ≤ m) → sumN f c ≤ c * m := by
  intro c
  induction c with
  | zero => intro _; simp [sumN]
  | succ c ih =>
    intro h
    have h1 := ih (fun i hi => h i (by omega))
    have h2 := h c (by omega)
    simp only [sumN, Nat.succ_mul]; omega
def mn (K : Nat → Nat → Bool) (b : Nat) (o : Nat → Bool) : Nat → Bool := fun k => o k && !K b k
/-- how many FULL LAYOUTS of the last r SITES, from SITE s on -/
def cnt (K : Nat → Nat → Bool) : Nat → Nat → (Nat → Bool) → Nat
  | 0, _, _ => 1
  | r + 1, s, o => sumN (fun c => if o (4 * s + c) = true then cnt K r (s + 1) (mn K (4 * s + c) o) else 0) 4
theorem cnt_congr {K : Nat → Nat → Bool} : ∀ {r s : Nat} {o o' : Nat → Bool}, (∀ k, 4 * s ≤ k → k < 4 * (s + r) → o k = o' k) → cnt K r s o = cnt K r s o' := by
  intro r
  induction r with
  | zero => intro s o o' _; rfl
  | succ r ih =>
    intro s o o' h
    simp only [cnt]
    apply sumN_congr
    intro c hc
    rw [h (4 * s + c) (by omega) (by omega)]
    split
    · apply ih
      intro k h1 h2
      simp only [mn]
      rw [h k (by omega) (by omega)]
    · rfl
theorem cnt_le (K : Nat → Nat → Bool) : ∀ (r s : Nat) (o : Nat → Bool), cnt K r s o ≤ 4 ^ r := by
  intro r
  induction r with
  | zero => intro s o; simp [cnt]
  | succ r ih =>
    intro s o
    simp only [cnt]
    refine Nat.le_trans (sumN_le (m := 4 ^ r) (fun c hc => ?_)) (by rw [Nat.pow_succ]; omega)
    split
    · exact ih _ _
    · exact Nat.zero_le _
/-- is there a FULL LAYOUT of those of the last r SITES that are of the set -/
def ful (K : Nat → Nat → Bool) (set : Nat → Bool) : Nat → Nat → (Nat → Bool) → Bool
  | 0, _, _ => true
  | r + 1, s, o => if set s = true then (List.range 4).any (fun c => o (4 * s + c) && ful K set r (s + 1) (mn K (4 * s + c) o)) else ful K set r (s + 1) o
theorem any_congr {f g : Nat → Bool} {n : Nat} (h : ∀ i, i < n → f i = g i) : (List.range n).any f = (List.range n).any g := by
  rw [Bool.eq_iff_iff, List.any_eq_true, List.any_eq_true]
  constructor
  · rintro ⟨x, h1, h2⟩; exact ⟨x, h1, by rw [← h x (List.mem_range.mp h1)]; exact h2⟩
  · rintro ⟨x, h1, h2⟩; exact ⟨x, h1, by rw [h x (List.mem_range.mp h1)]; exact h2⟩
theorem any_succ (p : Nat → Bool) (o : Nat) : (List.range (o + 1)).any p = ((List.range o).any p || p o) := by simp [List.range_succ, List.any_append]
theorem ful_congr {K : Nat → Nat → Bool} {set : Nat → Bool} : ∀ {r s : Nat} {o o' : Nat → Bool}, (∀ k, 4 * s ≤ k → k < 4 * (s + r) → o k = o' k) → ful K set r s o = ful K set r s o' := by
  intro r
  induction r with
  | zero => intro s o o' _; rfl
  | succ r ih =>
    intro s o o' h
    simp only [ful]
    split
    · apply any_congr
      intro c hc
      rw [h (4 * s + c) (by omega) (by omega), ih (o' := mn K (4 * s + c) o')]
      intro k h1 h2
      simp only [mn]
      rw [h k (by omega) (by omega)]
    · exact ih (fun k h1 h2 => h k (by omega) (by omega))
theorem ful_mono {K : Nat → Nat → Bool} {set : Nat → Bool} : ∀ {r s : Nat} {o o' : Nat → Bool}, (∀ k, 4 * s ≤ k → k < 4 * (s + r) → o k = true → o' k = true) → ful K set r s o = true → ful K set r s o' = true := by
  intro r
  induction r with
  | zero => intro s o o' _ _; rfl
  | succ r ih =>
    intro s o o' h hf
    simp only [ful] at hf ⊢
    split at hf
    · rename_i hs
      rw [if_pos hs]
      obtain ⟨c, hc, hcc⟩ := List.any_eq_true.mp hf
      have hc4 := List.mem_range.mp hc
      rw [Bool.and_eq_true] at hcc
      refine List.any_eq_true.mpr ⟨c, hc, ?_⟩
      rw [Bool.and_eq_true]
      refine ⟨h _ (by omega) (by omega) hcc.1, ih (fun k h1 h2 hk => ?_) hcc.2⟩
      simp only [mn, Bool.and_eq_true] at hk ⊢
      exact ⟨h k (by omega) (by omega) hk.1, hk.2⟩
    · rename_i hs
      rw [if_neg hs]
      exact ih (fun k h1 h2 hk => h k (by omega) (by omega) hk) hf
theorem bt_rest {i : Nat} (hi : i < 8) (x : Int32) {k : Nat} (hk : k < 32) : bt (x &&& ((15 <<< ((4 * nI i + 0) &&& 31)) ^^^ (-1 : Int32))) k = (bt x k && decide (k / 4 ≠ i)) := by
  rw [b_and, not_bt _ hk, four_bits i hi k hk]; simp
theorem bt_left (x y : Int32) {k : Nat} (hk : k < 32) : bt (x &&& (y ^^^ (-1 : Int32))) k = (bt x k && !bt y k) := by rw [b_and, not_bt _ hk]
theorem left_eq {x y : Int32} : x &&& (y ^^^ (-1 : Int32)) = x ↔ ∀ k, k < 32 → bt x k = true → bt y k = false := by
  constructor
  · intro h k hk hx
    have := congrArg (fun z => bt z k) h
    simp only [bt_left x y hk, hx] at this
    simpa using this
  · intro h
    apply b_ext
    intro k hk
    rw [bt_left x y hk]
    cases hx : bt x k
    · rfl
    · rw [h k hk hx]; rfl
theorem c5_countFrom {mem : am_Mem} {n : Nat} {K : Nat → Nat → Bool} (hn : n ≤ 8) (hN : mem 1 4 = nI n) (hK : ∀ k, k < 4 * n → ∀ b, b < 32 → bt (mem 17 k) b = K k b) :
    ∀ (r s d : Nat) (x : Int32) {P : Int32 → am_Mem → Prop}, s + r = n → P (nI (cnt K r s (bt x))) mem → am_Ci m5_countFrom (d + r + 2) [.ref 15, .int (nI s), .int x] mem P := by
  intro r
  induction r with
  | zero =>
    intro s d x P hs h
    have : s = n := by omega
    subst this
    refine am_ci rfl rfl rfl (sg5_countFrom_0 (D := d + 1) ⟨fun q => absurd q ?_, fun _ => am_eq h rfl⟩)
    rw [hN]; exact nI_nlt (by omega) (by omega)
  | succ r ih =>
    intro s d x P hs h
    refine am_ci rfl rfl rfl (sg5_countFrom_0 (D := d + r + 2) ⟨fun _ => ?_, fun q => absurd ?_ q⟩)
    rotate_left
    · rw [hN]; exact nI_lt (by omega) (by omega)
    refine c6_boxesOf (d := d + r + 1) ?_
    generalize hrest : x &&& ((15 <<< ((4 * nI s + 0) &&& 31)) ^^^ (-1 : Int32)) = rest
    have hrb : ∀ k, k < 32 → bt rest k = (bt x k && decide (k / 4 ≠ s)) := fun k hk => by rw [← hrest]; exact bt_rest (by omega) x hk
    -- the loop over CORNERS
    have loop : ∀ (t c p hh : Nat), c + t = 4 → hh ≤ c → sumN (fun c => if bt x (4 * s + c) = true then cnt K r (s + 1) (mn K (4 * s + c) (bt x)) else 0) c = p + hh * cnt K r (s + 1) (bt rest) →
        am_J m5_countFrom (d + r + 2 + 1) 31 [.ref 15, .int (nI s), .int x, .int (nI p), .int (nI hh), .int rest, .int (nI c), .null, .null] [] mem (fun r mem' => ∃ x, r = some (.int x) ∧ P x mem') := by
      intro t
      induction t with
      | zero =>
        intro c p hh hc hhc hsum
        have : c = 4 := by omega
        subst this
        have htot : cnt K (r + 1) s (bt x) = p + hh * cnt K r (s + 1) (bt rest) := hsum
        refine sg5_countFrom_31 ⟨fun _ => ⟨fun q => am_eq h ?_, fun q => ?_⟩, fun q => absurd (show (4 : Int32) ≤ nI 4 from Int32.le_refl _) q⟩
        · have : hh = 0 := by
            rcases Nat.eq_zero_or_pos hh with z | z
            · exact z
            · exact absurd q (nI_nle z (by omega))
          rw [htot, this]; simp
        · rw [show nI s + (1 : Int32) = nI (s + 1) from nI_1 s]
          refine ih (s + 1) d rest (by omega) (am_eq h ?_)
          rw [htot, pk_mul, nI_add]
      | succ t iht =>
        intro c p hh hc hhc hsum
        have hb : 4 * s + c < 4 * n := by omega
        have e32 : vp_in (nI (4 * s + c)) 32 := vp_in_nI (by omega) (by omega)
        have cb : (nI (4 * s + c)).toNatClampNeg = 4 * s + c := nI_clamp (by omega)
        refine sg5_countFrom_31 ⟨fun q => absurd q ?_, fun _ => c6_boxOf ?_⟩
        · rw [show (4 : Int32) = nI 4 from rfl, nI_leI (by omega) (by omega)]; omega
        rw [box_nI]
        refine c6_hasBit (by omega) ⟨fun q => sg5_countFrom_93 ?_, fun q => ⟨e32, ?_⟩⟩
        · rw [nI_1]
          refine iht (c + 1) p hh (by omega) (by omega) ?_
          simp only [sumN]; rw [hsum, if_neg (by rw [bi_0.mp q]; decide)]; omega
        · have hox := bi_n0.mp q
          rw [cb]
          have same : ∀ k, 4 * (s + 1) ≤ k → k < 4 * (s + 1 + r) → bt (rest &&& ((mem 17 (4 * s + c)) ^^^ (-1 : Int32))) k = mn K (4 * s + c) (bt x) k := by
            intro k h1 h2
            rw [bt_left _ _ (by omega), hrb k (by omega), hK _ hb k (by omega)]
            have : ¬ k / 4 = s := by omega
            simp [mn, this]
          refine ⟨fun q1 => ?_, fun q1 => sg5_countFrom_93 ?_⟩
          · rw [show nI s + (1 : Int32) = nI (s + 1) from nI_1 s]
            refine ih (s + 1) d _ (by omega) (sg5_countFrom_93 ?_)
            rw [nI_1, nI_add, cnt_congr same]
            refine iht (c + 1) _ hh (by omega) (by omega) ?_
            simp only [sumN]; rw [hsum, if_pos hox]; omega
          · rw [nI_1, nI_1]
            refine iht (c + 1) p (hh + 1) (by omega) (by omega) ?_
            simp only [sumN]; rw [hsum, if_pos hox]
            have : cnt K r (s + 1) (mn K (4 * s + c) (bt x)) = cnt K r (s + 1) (bt rest) := by
              rw [← cnt_congr same, q1]
            rw [this, Nat.succ_mul]; omega
    have := loop 4 0 0 0 (by omega) (by omega) (by simp [sumN])
    simpa [nI_0] using this
theorem c5_isFullFrom {mem : am_Mem} {n : Nat} {K : Nat → Nat → Bool} {set : Int32} (hn : n ≤ 8) (hN : mem 1 4 = nI n) (hK : ∀ k, k < 4 * n → ∀ b, b < 32 → bt (mem 17 k) b = K k b) :
    ∀ (r s d : Nat) (x : Int32) {P : Int32 → am_Mem → Prop}, s + r = n → P (bi (ful K (bt set) r s (bt x))) mem → am_Ci m5_isFullFrom (d + r + 2) [.ref 15, .int (nI s), .int set, .int x] mem P := by
  intro r
  induction r with
  | zero =>
    intro s d x P hs h
    have : s = n := by omega
    subst this
    refine am_ci rfl rfl rfl (sg5_isFullFrom_0 (D := d + 1) ⟨fun q => absurd q ?_, fun _ => am_eq h rfl⟩)
    rw [hN]; exact nI_nlt (by omega) (by omega)
  | succ r ih =>
    intro s d x P hs h
    refine am_ci rfl rfl rfl (sg5_isFullFrom_0 (D := d + r + 2) ⟨fun _ => c6_hasBit (by omega) ⟨fun q0 => ?_, fun q0 => ?_⟩, fun q => absurd ?_ q⟩)
    rotate_left
    · rw [show nI s + (1 : Int32) = nI (s + 1) from nI_1 s]
      refine ih (s + 1) d x (by omega) ⟨bi_01 _, am_eq h ?_⟩
      simp only [ful]; rw [if_neg (by rw [bi_0.mp q0]; decide)]
    · rw [hN]; exact nI_lt (by omega) (by omega)
    have hset := bi_n0.mp q0
    refine c6_boxesOf (d := d + r + 1) ?_
    generalize hrest : x &&& ((15 <<< ((4 * nI s + 0) &&& 31)) ^^^ (-1 : Int32)) = rest
    have hrb : ∀ k, k < 32 → bt rest k = (bt x k && decide (k / 4 ≠ s)) := fun k hk => by rw [← hrest]; exact bt_rest (by omega) x hk
    generalize hg : (fun c => bt x (4 * s + c) && ful K (bt set) r (s + 1) (mn K (4 * s + c) (bt x))) = g
    have htot : ful K (bt set) (r + 1) s (bt x) = (List.range 4).any g := by
      simp only [ful]; rw [if_pos hset, hg]
    have loop : ∀ (t c : Nat), c + t = 4 → (List.range c).any g = false →
        am_J m5_isFullFrom (d + r + 2 + 1) 44 [.ref 15, .int (nI s), .int set, .int x, .int rest, .int (nI c), .null, .null, .null] [] mem (fun r mem' => ∃ x, r = some (.int x) ∧ P x mem') := by
      intro t
      induction t with
      | zero =>
        intro c hc hsum
        have : c = 4 := by omega
        subst this
        refine sg5_isFullFrom_44 ⟨fun _ => am_eq h ?_, fun q => absurd (show (4 : Int32) ≤ nI 4 from Int32.le_refl _) q⟩
        rw [htot, hsum]; rfl
      | succ t iht =>
        intro c hc hsum
        have hb : 4 * s + c < 4 * n := by omega
        have e32 : vp_in (nI (4 * s + c)) 32 := vp_in_nI (by omega) (by omega)
        have cb : (nI (4 * s + c)).toNatClampNeg = 4 * s + c := nI_clamp (by omega)
        refine sg5_isFullFrom_44 ⟨fun q => absurd q ?_, fun _ => c6_boxOf ?_⟩
        · rw [show (4 : Int32) = nI 4 from rfl, nI_leI (by omega) (by omega)]; omega
        rw [box_nI]
        refine c6_hasBit (by omega) ⟨fun q => sg5_isFullFrom_108 ?_, fun q => ⟨e32, ?_⟩⟩
        · rw [nI_1]
          refine iht (c + 1) (by omega) ?_
          rw [any_succ, hsum, ← hg]; simp [bi_0.mp q]
        · have hox := bi_n0.mp q
          rw [cb]
          have same : ∀ k, 4 * (s + 1) ≤ k → k < 4 * (s + 1 + r) → bt (rest &&& ((mem 17 (4 * s + c)) ^^^ (-1 : Int32))) k = mn K (4 * s + c) (bt x) k := by
            intro k h1 h2
            rw [bt_left _ _ (by omega), hrb k (by omega), hK _ hb k (by omega)]
            have : ¬ k / 4 = s := by omega
            simp [mn, this]
          have gc : g c = ful K (bt set) r (s + 1) (bt (rest &&& ((mem 17 (4 * s + c)) ^^^ (-1 : Int32)))) := by
            rw [ful_congr same, ← hg]; simp [hox]
          rw [show nI s + (1 : Int32) = nI (s + 1) from nI_1 s]
          refine ih (s + 1) d _ (by omega) ⟨fun q1 => ⟨bi_01 _, am_eq h ?_⟩, fun q1 => ⟨fun q2 => sg5_isFullFrom_108 ?_, fun q2 => ⟨bi_01 _, am_eq h ?_⟩⟩⟩
          · have q1 := bi_n0.mp q1
            rw [htot, q1]
            have : (List.range 4).any g = true := List.any_eq_true.mpr ⟨c, List.mem_range.mpr (by omega), by rw [gc, q1]⟩
            rw [this]
          · rw [nI_1]
            refine iht (c + 1) (by omega) ?_
            rw [any_succ, hsum, gc, bi_0.mp q1]; rfl
          · have q1 := bi_0.mp q1
            rw [q1, htot]
            -- it takes nothing from the others: no other CORNER can do better
            have hno : ful K (bt set) r (s + 1) (bt rest) = false := by rw [q2] at q1; exact q1
            have : (List.range 4).any g = false := by
              rw [Bool.eq_false_iff]
              intro w
              obtain ⟨e, he, hge⟩ := List.any_eq_true.mp w
              have he := List.mem_range.mp he
              rw [← hg] at hge
              simp only [Bool.and_eq_true] at hge
              -- a FULL LAYOUT with fewer open boxes is one with more
              have := ful_mono (o' := bt rest) (fun k h1 h2 hk => by
                simp only [mn, Bool.and_eq_true] at hk
                rw [hrb k (by omega), hk.1]
                have : ¬ k / 4 = s := by omega
                simp [this]) hge.2
              rw [hno] at this
              exact absurd this (by decide)
            rw [this]
    have := loop 4 0 (by omega) (by simp)
    simpa [nI_0] using this
