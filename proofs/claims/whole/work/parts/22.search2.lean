def ev (n : Nat) : Int32 := bs (fun _ => true) n
theorem ev_bt {n : Nat} (hn : n ≤ 8) (i : Nat) : bt (ev n) i = decide (i < n) := by
  by_cases hi : i < 32
  · unfold ev; rw [bs_bt _ n (by omega) i hi]; simp
  · rw [b_big (by omega), decide_eq_false (by omega)]
theorem ev_eq : ∀ n : Nat, n ≤ 8 → ((1 : Int32) <<< (nI n &&& 31)) - 1 = ev n := by
  intro n hn
  have h : ∀ n, n < 9 → ((1 : Int32) <<< (nI n &&& 31)) - 1 = ev n := by decide +kernel
  exact h n (by omega)
theorem c1_everySite {d : Nat} {mem : am_Mem} {P : Int32 → am_Mem → Prop} {n : Nat} (hn : n ≤ 8) (hN : mem 1 4 = nI n) (h : P (ev n) mem) : am_Ci m1_everySite d [.ref 1] mem P :=
  am_ci rfl rfl rfl (sg1_everySite_0 (am_eq h (by rw [hN, ev_eq n hn])))
/-- sum of a worth over a set -/
def wsum (w : Nat → Int) (s : Nat → Bool) : Nat → Int
  | 0 => 0
  | k + 1 => wsum w s k + (if s k = true then w k else 0)
theorem wsum_rng {w : Nat → Int} {s : Nat → Bool} : ∀ {k : Nat}, (∀ i, i < k → 1 ≤ w i ∧ w i ≤ 99) → 0 ≤ wsum w s k ∧ wsum w s k ≤ 99 * k := by
  intro k
  induction k with
  | zero => intro _; simp [wsum]
  | succ k ih =>
    intro h
    have h1 := ih (fun i hi => h i (by omega))
    have h2 := h k (by omega)
    unfold wsum
    split <;> omega
theorem worthOf_loop {D : Nat} {Q : Option Value → am_Mem → Prop} {mem : am_Mem} {n : Nat} {w : Nat → Int} {v : Int32} (hn : n ≤ 8) (hN : mem 1 4 = nI n) (hw : ∀ i, i < n → mem 6 i = iz (w i))
    (k : Q (some (.int (iz (wsum w (bt v) n)))) mem) :
    ∀ (r i : Nat), i + r = n → am_J m1_worthOf (D + 1) 4 [.ref 1, .int v, .int (iz (wsum w (bt v) i)), .int (nI i)] [] mem Q := by
  intro r
  induction r with
  | zero =>
    intro i hi
    have : i = n := by omega
    subst this
    refine sg1_worthOf_4 ⟨fun _ => k, fun q => absurd ?_ q⟩
    rw [hN]; exact Int32.le_refl _
  | succ r ih =>
    intro i hi
    have ih' := ih (i + 1) (by omega)
    refine sg1_worthOf_4 ⟨fun q => absurd q ?_, fun _ => c6_hasBit (by omega) ⟨fun q => ?_, fun q => ⟨vp_in_nI (by omega) (by omega), ?_⟩⟩⟩
    · rw [hN, nI_leI (by omega) (by omega)]; omega
    · refine sg1_worthOf_29 ?_
      rw [nI_1]
      have : wsum w (bt v) (i + 1) = wsum w (bt v) i := by simp [wsum, bi_0.mp q]
      rw [this] at ih'; exact ih'
    · refine sg1_worthOf_29 ?_
      rw [nI_1, nI_clamp (by omega), hw i (by omega), iz_add]
      have : wsum w (bt v) (i + 1) = wsum w (bt v) i + w i := by simp [wsum, bi_n0.mp q]
      rw [this] at ih'; exact ih'
theorem c1_worthOf {d : Nat} {mem : am_Mem} {P : Int32 → am_Mem → Prop} {n : Nat} {w : Nat → Int} {v : Int32} (hn : n ≤ 8) (hN : mem 1 4 = nI n) (hw : ∀ i, i < n → mem 6 i = iz (w i)) (h : P (iz (wsum w (bt v) n)) mem) : am_Ci m1_worthOf (d + 1) [.ref 1, .int v] mem P :=
  am_ci rfl rfl rfl (sg1_worthOf_0 (worthOf_loop hn hN hw (am_eq h rfl) n 0 (by omega)))
def pfr (σ : mp_S) (set : Int32) (k : Nat) : Bool := bt set (k / 4) && g_free σ 1 (fun o => !bt set o) (k / 4) (k % 4)
theorem pfr_eq {σ : mp_S} (hσ : s_ok σ) {set : Int32} {k : Nat} : pfr σ set k = (bt set (k / 4) && (pin σ k && decide (bs (g_cov σ 1 (k / 4) (k % 4)) (s_n σ) &&& set = 0))) := by
  have hn := hσ.1
  unfold pfr g_free pin
  congr 2
  rw [Bool.eq_iff_iff, List.all_eq_true, decide_eq_true_eq]
  constructor
  · intro h
    apply b_ext
    intro i hi
    rw [b_and, bs_bt _ _ (by omega) i hi, b_0]
    by_cases hin : i < s_n σ
    · have := h i (List.mem_range.mpr hin)
      simp only [Bool.not_not, Bool.or_eq_true] at this
      cases h1 : bt set i
      · simp
      · rw [h1] at this
        simp at this
        simp [this]
    · simp [hin]
  · intro h o ho
    have ho := List.mem_range.mp ho
    have := congrArg (fun x => bt x o) h
    simp only [b_and, b_0] at this
    rw [bs_bt _ _ (by omega) o (by omega)] at this
    simp only [ho, decide_true, Bool.true_and] at this
    cases h1 : bt set o
    · simp [h1]
    · rw [h1] at this; simp at this; simp [this]
theorem freeBoxes_in {D : Nat} {Q : Option Value → am_Mem → Prop} {mem : am_Mem} {σ : mp_S} {set : Int32} {i : Nat} (hσ : s_ok σ) (hS : St mem σ (4 * s_n σ)) (hi : i < s_n σ)
    (k : am_J m5_freeBoxes (D + 1) 4 [.ref 15, .int set, .int (bs (pfr σ set) (4 * (i + 1))), .int (nI (i + 1)), .null, .null] [] mem Q) :
    ∀ (r c : Nat), c + r = 4 → am_J m5_freeBoxes (D + 1) 18 [.ref 15, .int set, .int (bs (pfr σ set) (4 * i + c)), .int (nI i), .int (nI c), .null] [] mem Q := by
  have hn := hσ.1
  intro r
  induction r with
  | zero =>
    intro c hc
    have : c = 4 := by omega
    subst this
    refine sg5_freeBoxes_18 ⟨fun _ => ?_, fun q => absurd (show (4 : Int32) ≤ nI 4 from Int32.le_refl _) q⟩
    rw [nI_1]
    exact k
  | succ r ih =>
    intro c hc
    have ih' := ih (c + 1) (by omega)
    have e32 : vp_in (nI (4 * i + c)) 32 := vp_in_nI (by omega) (by omega)
    have cb : (nI (4 * i + c)).toNatClampNeg = 4 * i + c := nI_clamp (by omega)
    have d4 : (4 * i + c) / 4 = i := by omega
    have nx : ∀ x : Int32, x = bs (pfr σ set) (4 * i + c + 1) → am_J m5_freeBoxes (D + 1) 71 [.ref 15, .int set, .int x, .int (nI i), .int (nI c), .null] [] mem Q := by
      intro x hx
      refine sg5_freeBoxes_71 ?_
      rw [nI_1, hx]; exact ih'
    have nf : pfr σ set (4 * i + c) = false → am_J m5_freeBoxes (D + 1) 71 [.ref 15, .int set, .int (bs (pfr σ set) (4 * i + c)), .int (nI i), .int (nI c), .null] [] mem Q := fun q => nx _ (by rw [← bs_step, q]; simp [or_0])
    have pe := pfr_eq hσ (set := set) (k := 4 * i + c)
    rw [d4] at pe
    refine sg5_freeBoxes_18 ⟨fun q => absurd q ?_, fun _ => c6_boxOf ?_⟩
    · rw [show (4 : Int32) = nI 4 from rfl, nI_leI (by omega) (by omega)]; omega
    · rw [box_nI]
      refine c6_hasBit (by omega) ⟨fun q => nf ?_, fun q => c6_hasBit (by omega) ⟨fun q1 => nf ?_, fun q1 => ⟨e32, ?_⟩⟩⟩
      · rw [pe, bi_0.mp q]; rfl
      · rw [bi_0, hS.1, bs_bt _ _ (by omega) _ (by omega)] at q1
        have : pin σ (4 * i + c) = false := by simpa [show 4 * i + c < 4 * s_n σ by omega] using q1
        rw [pe, this]; simp
      · rw [bi_n0, hS.1, bs_bt _ _ (by omega) _ (by omega)] at q1
        have h1 : pin σ (4 * i + c) = true := by simpa [show 4 * i + c < 4 * s_n σ by omega] using q1
        rw [cb, (hS.2 (4 * i + c) (by omega)).1, d4]
        refine ⟨fun q2 => nf ?_, fun q2 => nx _ ?_⟩
        · rw [pe, decide_eq_false q2]; simp
        · have : pfr σ set (4 * i + c) = true := by rw [pe, decide_eq_true q2, h1, bi_n0.mp q]; rfl
          rw [← bs_step, this]; rfl
theorem freeBoxes_out {D : Nat} {Q : Option Value → am_Mem → Prop} {mem : am_Mem} {σ : mp_S} {set : Int32} (hσ : s_ok σ) (hN : mem 1 4 = nI (s_n σ)) (hS : St mem σ (4 * s_n σ))
    (k : Q (some (.int (bs (pfr σ set) (4 * s_n σ)))) mem) :
    ∀ (r i : Nat), i + r = s_n σ → am_J m5_freeBoxes (D + 1) 4 [.ref 15, .int set, .int (bs (pfr σ set) (4 * i)), .int (nI i), .null, .null] [] mem Q := by
  have hn := hσ.1
  intro r
  induction r with
  | zero =>
    intro i hi
    have : i = s_n σ := by omega
    subst this
    refine sg5_freeBoxes_4 ⟨fun _ => k, fun q => absurd ?_ q⟩
    rw [hN]; exact Int32.le_refl _
  | succ r ih =>
    intro i hi
    refine sg5_freeBoxes_4 ⟨fun q => absurd q ?_, fun _ => freeBoxes_in hσ hS (by omega) (ih (i + 1) (by omega)) 4 0 (by omega)⟩
    rw [hN, nI_leI (by omega) (by omega)]; omega
theorem c5_freeBoxes {d : Nat} {mem : am_Mem} {P : Int32 → am_Mem → Prop} {σ : mp_S} {set : Int32} (hσ : s_ok σ) (hN : mem 1 4 = nI (s_n σ)) (hS : St mem σ (4 * s_n σ)) (h : P (bs (pfr σ set) (4 * s_n σ)) mem) : am_Ci m5_freeBoxes (d + 1) [.ref 15, .int set] mem P :=
  am_ci rfl rfl rfl (sg5_freeBoxes_0 (freeBoxes_out hσ hN hS (am_eq h rfl) (s_n σ) 0 (by omega)))
theorem four_bits : ∀ i, i < 8 → ∀ k, k < 32 → bt ((15 : Int32) <<< ((4 * nI i + 0) &&& 31)) k = decide (k / 4 = i) := by decide +kernel
theorem not_bt (x : Int32) {k : Nat} (hk : k < 32) : bt (x ^^^ (-1)) k = !bt x k := by rw [b_xor, b_m1 k hk]; simp
/-- of one SITE only this CORNER is left -/
def only (i c : Nat) (f : Nat → Bool) (k : Nat) : Bool := f k && (decide (k / 4 ≠ i) || decide (k = 4 * i + c))
theorem c5_freeBoxesWith {d : Nat} {mem : am_Mem} {P : Int32 → am_Mem → Prop} {σ : mp_S} {i c : Nat} (hσ : s_ok σ) (hN : mem 1 4 = nI (s_n σ)) (hS : St mem σ (4 * s_n σ)) (hi : i < s_n σ) (hc : c < 4) (h : P (bs (only i c (pfr σ (ev (s_n σ)))) (4 * s_n σ)) mem) : am_Ci m5_freeBoxesWith (d + 2) [.ref 15, .int (nI i), .int (nI c)] mem P := by
  have hn := hσ.1
  refine am_ci rfl rfl rfl (sg5_freeBoxesWith_0 (c1_everySite hn hN (c5_freeBoxes hσ hN hS (c6_boxesOf (c6_boxOf (am_eq h ?_))))))
  rw [box_nI]
  apply b_ext
  intro k hk
  rw [b_and, b_or, not_bt _ hk, four_bits i (by omega) k hk, bt_one _ (by omega) hk, bs_bt _ _ (by omega) k hk, bs_bt _ _ (by omega) k hk]
  unfold only
  simp only [Bool.and_assoc, decide_not]
