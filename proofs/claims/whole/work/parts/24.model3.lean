/-- the first CORNER from c on, of t that are left, with f; else 4 -/
def nxt (f : Nat → Bool) : Nat → Nat → Nat
  | 0, c => c
  | t + 1, c => if f c = true then c else nxt f t (c + 1)
theorem nxt_le (f : Nat → Bool) : ∀ (t c : Nat), c ≤ nxt f t c ∧ nxt f t c ≤ c + t := by
  intro t
  induction t with
  | zero => intro c; simp [nxt]
  | succ t ih =>
    intro c
    simp only [nxt]
    split
    · omega
    · have := ih (c + 1); omega
theorem bit_fn (F T : Int32) {k : Nat} (hk : k < 32) : (((F >>> (nI k &&& 31)) &&& (1 : Int32)) &&& ((T >>> (nI k &&& 31)) ^^^ (-1 : Int32))) = bi (bt F k && !bt T k) := by
  rw [bit_s F k hk]
  apply b_ext
  intro i hi
  rw [b_and, not_bt _ hi, b_sshr k hk T hi]
  have h1 : ∀ i, i < 32 → bt 1 i = decide (i = 0) := by decide +kernel
  by_cases h0 : i = 0
  · subst h0
    simp only [Nat.add_zero, hk, if_true]
    cases bt F k <;> cases bt T k <;> decide +kernel
  · cases bt F k
    · simp [bi, b_0]
    · cases bt T k
      · simp [bi, h1 i hi, h0]
      · simp [bi, h1 i hi, h0, b_0]
theorem nextCorner_9 {D : Nat} {Q : Option Value → am_Mem → Prop} {mem : am_Mem} {s : Nat} {v : Int32} {f : Nat → Bool} (hs : s < 8) (hf : ∀ c, c < 4 → f c = (bt (mem 30 16) (4 * s + c) && !bt (mem 41 s) (4 * s + c))) :
    ∀ (t c : Nat), c + t = 4 → am_J m7_nextCorner D 50 [.ref 30, .int (nI s), .int v, .int (nI (nxt f t c))] [] mem Q → am_J m7_nextCorner D 9 [.ref 30, .int (nI s), .int v, .int (nI c)] [] mem Q := by
  intro t
  induction t with
  | zero =>
    intro c hc h
    have : c = 4 := by omega
    subst this
    exact sg7_nextCorner_9 ⟨fun _ => h, fun q => absurd (show (4 : Int32) ≤ nI 4 from Int32.le_refl _) q⟩
  | succ t ih =>
    intro c hc h
    refine sg7_nextCorner_9 ⟨fun q => absurd q ?_, fun _ => ⟨vp_in_nI (by omega) (by omega), ?_⟩⟩
    · rw [show (4 : Int32) = nI 4 from rfl, nI_leI (by omega) (by omega)]; omega
    · rw [box_nI, nI_clamp (by omega), bit_fn _ _ (by omega), ← hf c (by omega)]
      refine ⟨fun q => ?_, fun q => ?_⟩
      · have : nxt f (t + 1) c = c := by simp [nxt, bi_n0.mp q]
        rw [this] at h; exact h
      · have : nxt f (t + 1) c = nxt f t (c + 1) := by simp [nxt, bi_0.mp q]
        rw [this] at h
        rw [nI_1]
        exact ih (c + 1) (by omega) h
theorem c7_nextCorner {d : Nat} {mem : am_Mem} {P : Int32 → am_Mem → Prop} {s t c : Nat} {b : Bool} {f : Nat → Bool} (hs : s < 8) (hct : c + t = 4) (hrow : mem 38 s = iz ((c : Int) - 1)) (hf : ∀ c, c < 4 → f c = (bt (mem 30 16) (4 * s + c) && !bt (mem 41 s) (4 * s + c)))
    (h : P (if nxt f t c = 4 ∧ b = true ∧ bt (mem 30 13) s = false then 5 else nI (nxt f t c)) mem) : am_Ci m7_nextCorner d [.ref 30, .int (nI s), .int (bi b)] mem P := by
  have hb := nxt_le f t c
  refine am_ci rfl rfl rfl (sg7_nextCorner_0 ⟨vp_in_nI hs (by omega), ?_⟩)
  rw [nI_clamp (by omega), hrow, show (1 : Int32) = iz 1 from rfl, iz_add, show (c : Int) - 1 + 1 = (c : Int) by omega, ← iz_nI]
  refine nextCorner_9 hs hf t c hct (sg7_nextCorner_50 ?_)
  have z4 : nI (nxt f t c) = 4 ↔ nxt f t c = 4 := by rw [show (4 : Int32) = nI 4 from rfl, nI_eq (by omega) (by omega)]
  rw [z4, bit_s _ s (by omega)]
  refine ⟨fun q => am_eq h ?_, fun q => ⟨fun q1 => am_eq h ?_, fun q1 => ⟨fun q2 => am_eq h ?_, fun q2 => am_eq h ?_⟩⟩⟩
  · rw [if_neg (fun w => q w.1)]
  · rw [if_neg (fun w => by rw [w.2.1] at q1; exact absurd (bi_0.mp q1) (by decide))]
  · rw [if_neg (fun w => by rw [w.2.2] at q2; exact q2 rfl)]
  · rw [if_pos ⟨q, bi_n0.mp q1, bi_0.mp q2⟩]
theorem c7_step_back {d : Nat} {mem : am_Mem} {P : Int32 → am_Mem → Prop} {s : Nat} (hs : s < 8) (hrow : mem 38 s = 5) (h : P (iz ((s : Int) - 1)) mem) : am_Ci m7_step d [.ref 30, .int (nI s)] mem P := by
  refine am_ci rfl rfl rfl (sg7_step_0 ⟨vp_in_nI hs (by omega), ?_⟩)
  rw [nI_clamp (by omega), hrow]
  refine ⟨fun q => absurd q (by decide), fun _ => am_eq h ?_⟩
  rw [iz_nI, show (1 : Int32) = iz 1 from rfl, iz_sub]
theorem c7_step_on {d : Nat} {mem : am_Mem} {P : Int32 → am_Mem → Prop} {s c n : Nat} (hs : s < n) (hn : n ≤ 8) (hN : mem 30 2 = nI n) (hc : c ≤ 4) (hrow : mem 38 s = nI c)
    (h : ∀ mem', mem' = (if s + 1 < n then am_set (am_set mem 41 (s + 1) (mem 41 s ||| (if c < 4 then mem 40 (4 * s + c) else 0))) 38 (s + 1) (-1) else am_set mem 41 (s + 1) (mem 41 s ||| (if c < 4 then mem 40 (4 * s + c) else 0))) → P (nI (s + 1)) mem') : am_Ci m7_step d [.ref 30, .int (nI s)] mem P := by
  refine am_ci rfl rfl rfl (sg7_step_0 ⟨vp_in_nI (by omega) (by omega), ?_⟩)
  rw [nI_clamp (by omega), hrow, show nI s + (1 : Int32) = nI (s + 1) from nI_1 s]
  have k56 : ∀ x : Int32, x = (if c < 4 then mem 40 (4 * s + c) else 0) → am_J m7_step d 56 [.ref 30, .int (nI s)] [.int x, .int (mem 41 s), .int (nI (s + 1)), .ref 41] mem (fun r mem' => ∃ x, r = some (.int x) ∧ P x mem') := by
    intro x hx
    refine sg7_step_56 ⟨vp_in_nI (by omega) (by omega), ?_⟩
    rw [am_set_na _ _ (show (30 : Nat) ≠ 41 by decide), hN, show nI s + (1 : Int32) = nI (s + 1) from nI_1 s, nI_leI (by omega) (by omega), nI_clamp (by omega)]
    refine ⟨fun q => am_eq (h _ ?_) rfl, fun q => ⟨vp_in_nI (by omega) (by omega), am_eq (h _ ?_) rfl⟩⟩
    · rw [if_neg (by omega), hx]
    · rw [if_pos (by omega), hx]
  refine ⟨fun _ => ⟨vp_in_nI (by omega) (by omega), vp_in_nI (by omega) (by omega), fun q => k56 0 ?_, fun q => ⟨vp_in_nI (by omega) (by omega), ?_, k56 _ ?_⟩⟩, fun q => absurd ?_ q⟩
  · rw [show (4 : Int32) = nI 4 from rfl, nI_leI (by omega) (by omega)] at q
    rw [if_neg (by omega)]
  · rw [show (4 : Int32) = nI 4 from rfl, nI_leI (by omega) (by omega)] at q
    rw [box_nI]
    exact vp_in_nI (by omega) (by omega)
  · rw [show (4 : Int32) = nI 4 from rfl, nI_leI (by omega) (by omega)] at q
    rw [if_pos (by omega), box_nI, nI_clamp (by omega)]
  · rw [show (4 : Int32) = nI 4 from rfl, nI_leI (by omega) (by omega)]; omega
