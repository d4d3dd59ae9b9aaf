theorem c7_isBetween {d : Nat} {mem : am_Mem} {P : Int32 → am_Mem → Prop} {v a b : Int} (hv : -1000000 ≤ v ∧ v ≤ 1000000) (ha : -1000000 ≤ a ∧ a ≤ 1000000) (hb : -1000000 ≤ b ∧ b ≤ 1000000) (h : P (bi (decide ((a ≤ v ∧ v ≤ b) ∨ (b ≤ v ∧ v ≤ a)))) mem) : am_Ci m7_isBetween (d + 1) [.int (iz v), .int (iz a), .int (iz b)] mem P := by
  refine am_ci rfl rfl rfl (sg7_isBetween_0 ?_)
  rw [iz_le (by omega) (by omega) (by omega) (by omega)]
  refine ⟨fun q => c7_in ⟨bi_01 _, am_eq h ?_⟩, fun q => c7_in ⟨bi_01 _, am_eq h ?_⟩⟩
  · rw [iz_long (by omega) (by omega), iz_long (by omega) (by omega), iz_long (by omega) (by omega)]
    congr 1; apply decide_eq_decide.mpr; omega
  · rw [iz_long (by omega) (by omega), iz_long (by omega) (by omega), iz_long (by omega) (by omega)]
    congr 1; apply decide_eq_decide.mpr; omega
theorem c7_lineCrosses {d : Nat} {mem : am_Mem} {P : Int32 → am_Mem → Prop} {σ : mp_S} {a b : Nat} {h g : Int} (hσ : s_ok σ) (hM : Mo mem σ 1 0) (ha : a < s_n σ) (hb : b < s_n σ) (hh : 0 ≤ h ∧ h ≤ 400) (hg : 0 ≤ g ∧ g ≤ 400)
    (hp : P (bi (lc σ a h b g)) mem) : am_Ci m7_lineCrosses (d + 2) [.ref 30, .int (nI a), .int (iz h), .int (nI b), .int (iz g)] mem P := by
  have hn := hσ.1
  have ea : vp_in (nI a) 8 := vp_in_nI (by omega) (by omega)
  have eb : vp_in (nI b) 8 := vp_in_nI (by omega) (by omega)
  have ca : (nI a).toNatClampNeg = a := nI_clamp (by omega)
  have cb : (nI b).toNatClampNeg = b := nI_clamp (by omega)
  obtain ⟨x1, y1, -⟩ := hσ.2.2.2.2.2 a ha
  obtain ⟨x2, y2, -⟩ := hσ.2.2.2.2.2 b hb
  obtain ⟨mx1, my1, -⟩ := hM.2 a ha
  obtain ⟨mx2, my2, -⟩ := hM.2 b hb
  have hW := hσ.2.1
  have hH := hσ.2.2.1
  have k141 : ∀ u v w : Bool, (u || (v || w)) = lc σ a h b g → am_J m7_lineCrosses (d + 2) 141 [.null, .null, .null, .null, .null, .int (bi u), .int (bi v), .null] [.int (bi w)] mem (fun r mem' => ∃ x, r = some (.int x) ∧ P x mem') := by
    intro u v w e
    refine sg7_lineCrosses_141 ⟨fun q => am_eq hp ?_, fun q => ⟨fun q1 => am_eq hp ?_, fun q1 => ⟨fun q2 => am_eq hp ?_, fun q2 => am_eq hp ?_⟩⟩⟩
    · rw [← e, bi_n0.mp q]; rfl
    · rw [← e, bi_n0.mp q1]; cases u <;> rfl
    · rw [← e, bi_0.mp q, bi_0.mp q1, bi_0.mp q2]; rfl
    · rw [← e, bi_n0.mp q2]; cases u <;> cases v <;> rfl
  have k80 : ∀ u v : Bool, h ≠ g → u = decide (s_x σ b ≤ s_x σ a ∧ ((s_y σ a ≤ g ∧ g ≤ h) ∨ (h ≤ g ∧ g ≤ s_y σ a))) → v = decide (s_x σ a ≤ s_x σ b ∧ ((s_y σ b ≤ h ∧ h ≤ g) ∨ (g ≤ h ∧ h ≤ s_y σ b))) → am_J m7_lineCrosses (d + 2) 80 [.ref 30, .int (nI a), .int (iz h), .int (nI b), .int (iz g), .int (bi u), .null, .null] [.int (bi v)] mem (fun r mem' => ∃ x, r = some (.int x) ∧ P x mem') := by
    intro u v hne hu hv
    have tot : ∀ w : Bool, w = decide (s_x σ a = s_x σ b ∧ (((s_y σ b ≤ s_y σ a ∧ s_y σ a ≤ g) ∨ (g ≤ s_y σ a ∧ s_y σ a ≤ s_y σ b)) ∨ ((s_y σ a ≤ s_y σ b ∧ s_y σ b ≤ h) ∨ (h ≤ s_y σ b ∧ s_y σ b ≤ s_y σ a)))) → (u || (v || w)) = lc σ a h b g := by
      intro w hw
      rw [hu, hv, hw]; unfold lc
      rw [← Bool.decide_or, ← Bool.decide_or]
      apply decide_eq_decide.mpr
      constructor
      · intro q; exact Or.inr q
      · rintro (q | q)
        · exact absurd q hne
        · exact q
    refine sg7_lineCrosses_80 ?_
    rw [ca, cb, mx1, mx2, my1, my2, iz_eq (by omega) (by omega) (by omega) (by omega)]
    have k140 : decide (s_x σ a = s_x σ b ∧ (((s_y σ b ≤ s_y σ a ∧ s_y σ a ≤ g) ∨ (g ≤ s_y σ a ∧ s_y σ a ≤ s_y σ b)) ∨ ((s_y σ a ≤ s_y σ b ∧ s_y σ b ≤ h) ∨ (h ≤ s_y σ b ∧ s_y σ b ≤ s_y σ a)))) = false → am_J m7_lineCrosses (d + 2) 140 [.null, .null, .null, .null, .null, .int (bi u), .int (bi v), .null] [] mem (fun r mem' => ∃ x, r = some (.int x) ∧ P x mem') := fun q => sg7_lineCrosses_140 (k141 u v false (tot false q.symm))
    have k136 : decide (s_x σ a = s_x σ b ∧ (((s_y σ b ≤ s_y σ a ∧ s_y σ a ≤ g) ∨ (g ≤ s_y σ a ∧ s_y σ a ≤ s_y σ b)) ∨ ((s_y σ a ≤ s_y σ b ∧ s_y σ b ≤ h) ∨ (h ≤ s_y σ b ∧ s_y σ b ≤ s_y σ a)))) = true → am_J m7_lineCrosses (d + 2) 136 [.null, .null, .null, .null, .null, .int (bi u), .int (bi v), .null] [] mem (fun r mem' => ∃ x, r = some (.int x) ∧ P x mem') := fun q => sg7_lineCrosses_136 (k141 u v true (tot true q.symm))
    refine ⟨ea, eb, fun q => k140 (decide_eq_false (by omega)), fun q => ⟨ea, eb, c7_isBetween (d := d) (by omega) (by omega) (by omega) ⟨fun q1 => k136 ?_, fun q1 => ⟨eb, ea, ?_⟩⟩⟩⟩
    · rw [bi_n0, decide_eq_true_eq] at q1
      exact decide_eq_true (by omega)
    · rw [bi_0, decide_eq_false_iff_not] at q1
      rw [my1, my2]
      refine c7_isBetween (d := d) (by omega) (by omega) (by omega) ⟨fun q2 => k140 ?_, fun q2 => k136 ?_⟩
      · rw [bi_0, decide_eq_false_iff_not] at q2
        exact decide_eq_false (by omega)
      · rw [bi_n0, decide_eq_true_eq] at q2
        exact decide_eq_true (by omega)
  have k43 : ∀ u : Bool, h ≠ g → u = decide (s_x σ b ≤ s_x σ a ∧ ((s_y σ a ≤ g ∧ g ≤ h) ∨ (h ≤ g ∧ g ≤ s_y σ a))) → am_J m7_lineCrosses (d + 2) 43 [.ref 30, .int (nI a), .int (iz h), .int (nI b), .int (iz g), .null, .null, .null] [.int (bi u)] mem (fun r mem' => ∃ x, r = some (.int x) ∧ P x mem') := by
    intro u hne hu
    refine sg7_lineCrosses_43 ?_
    rw [ca, cb, mx1, mx2, my2, iz_lt (by omega) (by omega) (by omega) (by omega)]
    refine ⟨eb, ea, fun q => sg7_lineCrosses_79 (k80 u false hne hu (decide_eq_false (by omega)).symm), fun q => ⟨eb, c7_isBetween (d := d) (by omega) (by omega) (by omega) ⟨fun q1 => sg7_lineCrosses_79 (k80 u false hne hu ?_), fun q1 => k80 u true hne hu ?_⟩⟩⟩
    · rw [bi_0, decide_eq_false_iff_not] at q1
      exact (decide_eq_false (by omega)).symm
    · rw [bi_n0, decide_eq_true_eq] at q1
      exact (decide_eq_true (by omega)).symm
  refine am_ci rfl rfl rfl (sg7_lineCrosses_0 ?_)
  rw [ca, cb, mx1, mx2, my1, iz_eq (by omega) (by omega) (by omega) (by omega), iz_lt (by omega) (by omega) (by omega) (by omega)]
  refine ⟨fun hne => ⟨ea, eb, fun q => sg7_lineCrosses_42 (k43 false hne (decide_eq_false (by omega)).symm), fun q => ⟨ea, c7_isBetween (d := d) (by omega) (by omega) (by omega) ⟨fun q1 => sg7_lineCrosses_42 (k43 false hne ?_), fun q1 => k43 true hne ?_⟩⟩⟩, fun q => am_eq hp ?_⟩
  · rw [bi_0, decide_eq_false_iff_not] at q1
    exact (decide_eq_false (by omega)).symm
  · rw [bi_n0, decide_eq_true_eq] at q1
    exact (decide_eq_true (by omega)).symm
  · have : lc σ a h b g = true := decide_eq_true (Or.inl q)
    rw [this]; rfl
theorem c7_lengthOf {d : Nat} {mem : am_Mem} {P : Int32 → am_Mem → Prop} {σ : mp_S} {s : Nat} {h : Int} (hσ : s_ok σ) (hM : Mo mem σ 1 0) (hs : s < s_n σ) (hh : 0 ≤ h ∧ h ≤ 400) (hp : P (iz (ll σ s h)) mem) : am_Ci m7_lengthOf d [.ref 30, .int (nI s), .int (iz h)] mem P := by
  have hn := hσ.1
  have es : vp_in (nI s) 8 := vp_in_nI (by omega) (by omega)
  have cs : (nI s).toNatClampNeg = s := nI_clamp (by omega)
  obtain ⟨x1, y1, -⟩ := hσ.2.2.2.2.2 s hs
  obtain ⟨mx1, my1, -⟩ := hM.2 s hs
  have hW := hσ.2.1
  have hH := hσ.2.2.1
  have k29 : ∀ x : Int, x = (if s_y σ s < h then h - s_y σ s else s_y σ s - h) → am_J m7_lengthOf d 29 [.ref 30, .int (nI s), .null, .null] [.int (iz x)] mem (fun r mem' => ∃ x, r = some (.int x) ∧ P x mem') := by
    intro x hx
    refine sg7_lengthOf_29 ⟨es, am_eq hp ?_⟩
    rw [cs, mx1, hM.1.1, iz_add, iz_sub, hx]; rfl
  refine am_ci rfl rfl rfl (sg7_lengthOf_0 ?_)
  rw [cs, my1, iz_sub, iz_sub, iz_le (by omega) (by omega) (by omega) (by omega)]
  exact ⟨es, fun q => ⟨es, k29 _ (by rw [if_neg (by omega)])⟩, fun q => ⟨es, k29 _ (by rw [if_pos (by omega)])⟩⟩
def sn (pl : Nat → Nat) : Nat → Int32
  | 0 => 0
  | i + 1 => sn pl i ||| ((1 : Int32) <<< (nI (pl i) &&& 31))
theorem sn_bt {pl : Nat → Nat} : ∀ {i : Nat}, (∀ a, a < i → pl a < 32) → ∀ p, p < 32 → (bt (sn pl i) p = true ↔ ∃ a, a < i ∧ pl a = p) := by
  intro i
  induction i with
  | zero =>
    intro _ p hp
    simp only [sn, b_0]
    constructor
    · intro q; exact absurd q (by decide)
    · rintro ⟨a, ha, -⟩; exact absurd ha (by omega)
  | succ i ih =>
    intro h p hp
    simp only [sn]
    rw [b_or, Bool.or_eq_true, ih (fun a ha => h a (by omega)) p hp, bt_one _ (h i (by omega)) hp, decide_eq_true_eq]
    constructor
    · rintro (⟨a, ha, e⟩ | e)
      · exact ⟨a, by omega, e⟩
      · exact ⟨i, by omega, e.symm⟩
    · rintro ⟨a, ha, e⟩
      by_cases hai : a = i
      · subst hai; exact Or.inr e.symm
      · exact Or.inl ⟨a, by omega, e⟩
theorem sn_ev {k : Nat} {pl : Nat → Nat} (hk : k ≤ 6) (hp : ∀ i, i < k → pl i < k) : sn pl k = ev k ↔ prm k pl := by
  have hb := sn_bt (pl := pl) (i := k) (fun a ha => by have := hp a ha; omega)
  constructor
  · intro e p hpk
    have := (hb p (by omega)).mp (by rw [e, ev_bt (by omega), decide_eq_true hpk])
    exact this
  · intro h
    apply b_ext
    intro p hp32
    rw [ev_bt (by omega)]
    by_cases hpk : p < k
    · rw [decide_eq_true hpk]; exact (hb p hp32).mpr (h p hpk)
    · rw [decide_eq_false hpk, Bool.eq_false_iff]
      intro q
      obtain ⟨a, ha, e⟩ := (hb p hp32).mp q
      have := hp a ha; omega
theorem c7_isDeal {d : Nat} {mem : am_Mem} {P : Int32 → am_Mem → Prop} {k : Nat} {pl : Nat → Nat} (hk : k ≤ 6) (h27 : mem 30 27 = nI k) (h46 : ∀ i, i < k → mem 46 i = nI (pl i)) (hp : ∀ i, i < k → pl i < k) (h1 : prm k pl → P 1 mem) (h0 : ¬ prm k pl → P 0 mem) : am_Ci m7_isDeal d [.ref 30] mem P := by
  have loop : ∀ (r i : Nat), i + r = k → am_J m7_isDeal d 4 [.ref 30, .int (sn pl i), .int (nI i)] [] mem (fun r mem' => ∃ x, r = some (.int x) ∧ P x mem') := by
    intro r
    induction r with
    | zero =>
      intro i hi
      have : i = k := by omega
      subst this
      refine sg7_isDeal_4 ⟨fun _ => ?_, fun q => absurd (by rw [h27]; exact Int32.le_refl _) q⟩
      rw [h27, ev_eq i (by omega), sn_ev hk hp]
      exact ⟨fun q => ⟨0, rfl, h0 q⟩, fun q => ⟨1, rfl, h1 q⟩⟩
    | succ r ih =>
      intro i hi
      refine sg7_isDeal_4 ⟨fun q => absurd q ?_, fun _ => ⟨vp_in_nI (by omega) (by omega), ?_⟩⟩
      · rw [h27, nI_leI (by omega) (by omega)]; omega
      · rw [nI_clamp (by omega), h46 i (by omega), nI_1]
        exact ih (i + 1) (by omega)
  exact am_ci rfl rfl rfl (sg7_isDeal_0 (loop k 0 (by omega)))
def Em (mem : am_Mem) (k : Nat) (mb : Nat → Nat) : Prop := mem 30 27 = nI k ∧ ∀ i, i < k → mem 45 i = nI (mb i)
def RM (mem : am_Mem) (k : Nat) (b : Dl) : Prop := match b with
  | none => mem 30 28 = iz 1000 ∧ mem 30 29 = iz 0
  | some q => mem 30 28 = iz q.1 ∧ mem 30 29 = iz q.2.1 ∧ ∀ i, i < k → mem 47 i = nI (q.2.2 i)
def sW (mem mem' : am_Mem) : Prop := (∀ a, a ≠ 30 → a ≠ 47 → mem' a = mem a) ∧ ∀ j, j ≠ 28 → j ≠ 29 → mem' 30 j = mem 30 j
theorem c7_weigh {d : Nat} {mem : am_Mem} {P : am_Mem → Prop} {σ : mp_S} {k : Nat} {mb pl : Nat → Nat} {b : Dl} (hσ : s_ok σ) (hM : Mo mem σ 1 0) (hk : k ≤ 6) (hE : Em mem k mb) (hmb : ∀ i, i < k → mb i < s_n σ) (h46 : ∀ i, i < k → mem 46 i = nI (pl i)) (hp : ∀ i, i < k → pl i < k) (hb : RM mem k b) (hok : dok b)
    (h : ∀ mem', sW mem mem' → RM mem' k (updD σ mb k pl b) → P mem') : am_Cv m7_weigh (d + 3) [.ref 30] mem P := by
  have hH := hσ.2.2.1
  have hn := hσ.1
  have ht := tot_rng hσ hk (Nat.le_refl k) hmb hp
  have hgt' : ∀ i, i < k → iz (hgt σ k (pl i)) = (nI (pl i) * iz (s_H σ)) / nI k := by
    intro i hi
    have h1 : 0 ≤ (pl i : Int) * s_H σ := Int.mul_nonneg (by omega) (by omega)
    have h2 : (pl i : Int) * s_H σ ≤ 6 * 400 := Int.mul_le_mul (by have := hp i hi; omega) (by omega) (by omega) (by omega)
    rw [iz_nI, iz_nI, iz_mul, iz_div h1 (by omega) (by omega) (by omega)]; rfl
  -- it is the best so far: kept
  have copy : ∀ (m1 : am_Mem), sW mem m1 → m1 30 28 = iz (sumI (cbf σ mb k pl) k) → m1 30 29 = iz (sumI (lnf σ mb k pl) k) → updD σ mb k pl b = some (sumI (cbf σ mb k pl) k, sumI (lnf σ mb k pl) k, nrm k pl) → ∀ (r i : Nat) (m : am_Mem), i + r = k → sW mem m → m 30 28 = iz (sumI (cbf σ mb k pl) k) → m 30 29 = iz (sumI (lnf σ mb k pl) k) → (∀ a, a < i → m 47 a = nI (pl a)) → am_J m7_weigh (d + 3) 151 [.ref 30, .null, .null, .int (nI i), .null, .null] [] m (fun r mem' => r = none ∧ P mem') := by
    intro m1 _ _ _ hu r
    induction r with
    | zero =>
      intro i m hi hs h28 h29 h47
      have : i = k := by omega
      subst this
      refine sg7_weigh_151 ⟨fun _ => ⟨rfl, h m hs ?_⟩, fun q => absurd (by rw [hs.2 27 (by decide) (by decide), hE.1]; exact Int32.le_refl _) q⟩
      rw [hu]
      refine ⟨h28, h29, fun a ha => ?_⟩
      rw [h47 a ha]; unfold nrm; simp [ha]
    | succ r ih =>
      intro i m hi hs h28 h29 h47
      have e6 : vp_in (nI i) 6 := vp_in_nI (by omega) (by omega)
      refine sg7_weigh_151 ⟨fun q => absurd q ?_, fun _ => ⟨e6, e6, ?_⟩⟩
      · rw [hs.2 27 (by decide) (by decide), hE.1, nI_leI (by omega) (by omega)]; omega
      · rw [nI_1, nI_clamp (by omega), hs.1 46 (by decide) (by decide), h46 i (by omega)]
        refine ih (i + 1) _ (by omega) ⟨fun a h1 h2 => by rw [am_set_na _ _ h2]; exact hs.1 a h1 h2, fun j h1 h2 => by rw [am_set_na _ _ (by decide)]; exact hs.2 j h1 h2⟩ (by rw [am_set_na _ _ (by decide)]; exact h28) (by rw [am_set_na _ _ (by decide)]; exact h29) (fun a ha => ?_)
        by_cases hai : a = i
        · subst hai; rw [am_set_eq]
        · rw [am_set_nj _ _ hai]; exact h47 a (by omega)
  have keep : updD σ mb k pl b = some (sumI (cbf σ mb k pl) k, sumI (lnf σ mb k pl) k, nrm k pl) → am_J m7_weigh (d + 3) 139 [.ref 30, .int (iz (sumI (cbf σ mb k pl) k)), .int (iz (sumI (lnf σ mb k pl) k)), .null, .null, .null] [] mem (fun r mem' => r = none ∧ P mem') := by
    intro hu
    refine sg7_weigh_139 ?_
    generalize hm1 : am_set (am_set mem 30 28 (iz (sumI (cbf σ mb k pl) k))) 30 29 (iz (sumI (lnf σ mb k pl) k)) = m1
    have s1 : sW mem m1 := ⟨fun a h1 h2 => by rw [← hm1, am_set_na _ _ h1, am_set_na _ _ h1], fun j h1 h2 => by rw [← hm1, am_set_nj _ _ h2, am_set_nj _ _ h1]⟩
    have a1 : m1 30 28 = iz (sumI (cbf σ mb k pl) k) := by rw [← hm1, am_set_nj _ _ (by decide), am_set_eq]
    have a2 : m1 30 29 = iz (sumI (lnf σ mb k pl) k) := by rw [← hm1, am_set_eq]
    exact copy m1 s1 a1 a2 hu k 0 m1 (by omega) s1 a1 a2 (fun a ha => absurd ha (by omega))
  have out : ∀ (r i : Nat), i + r = k → am_J m7_weigh (d + 3) 6 [.ref 30, .int (iz (sumI (cbf σ mb k pl) i)), .int (iz (sumI (lnf σ mb k pl) i)), .int (nI i), .null, .null] [] mem (fun r mem' => r = none ∧ P mem') := by
    intro r
    induction r with
    | zero =>
      intro i hi
      have : i = k := by omega
      subst this
      refine sg7_weigh_6 ⟨fun _ => ?_, fun q => absurd (by rw [hE.1]; exact Int32.le_refl _) q⟩
      cases b with
      | none =>
        have hb : mem 30 28 = iz 1000 ∧ mem 30 29 = iz 0 := hb
        rw [hb.1, iz_lt (by omega) (by omega) (by omega) (by omega)]
        exact ⟨fun _ => keep rfl, fun q => absurd q (by omega)⟩
      | some q =>
        have hb' : mem 30 28 = iz q.1 ∧ mem 30 29 = iz q.2.1 ∧ ∀ a, a < i → mem 47 a = nI (q.2.2 a) := hb
        have hok : (0 ≤ q.1 ∧ q.1 ≤ 36) ∧ (0 ≤ q.2.1 ∧ q.2.1 ≤ 4800) := hok
        have stay : ¬ (sumI (cbf σ mb i pl) i < q.1 ∨ (sumI (cbf σ mb i pl) i = q.1 ∧ sumI (lnf σ mb i pl) i < q.2.1)) → ((none : Option Value) = none ∧ P mem) := fun w => ⟨rfl, h mem ⟨fun _ _ _ => rfl, fun _ _ _ => rfl⟩ (by
          have : updD σ mb i pl (some q) = some q := by unfold updD; simp only; rw [if_neg w]
          rw [this]; exact hb)⟩
        have go : (sumI (cbf σ mb i pl) i < q.1 ∨ (sumI (cbf σ mb i pl) i = q.1 ∧ sumI (lnf σ mb i pl) i < q.2.1)) → am_J m7_weigh (d + 3) 139 [.ref 30, .int (iz (sumI (cbf σ mb i pl) i)), .int (iz (sumI (lnf σ mb i pl) i)), .null, .null, .null] [] mem (fun r mem' => r = none ∧ P mem') := fun w => keep (by unfold updD; simp only; rw [if_pos w])
        rw [hb'.1, hb'.2.1, iz_lt (by omega) (by omega) (by omega) (by omega), iz_eq (by omega) (by omega) (by omega) (by omega), iz_le (by omega) (by omega) (by omega) (by omega)]
        exact ⟨fun w => go (Or.inl w), fun w => ⟨fun w1 => stay (by omega), fun w1 => ⟨fun w2 => stay (by omega), fun w2 => go (Or.inr ⟨w1, by omega⟩)⟩⟩⟩
    | succ r ih =>
      intro i hi
      have e6 : vp_in (nI i) 6 := vp_in_nI (by omega) (by omega)
      have gi := hgt_rng hσ (k := k) (p := pl i) (by omega) (hp i (by omega))
      refine sg7_weigh_6 ⟨fun q => absurd q ?_, fun _ => ⟨e6, by rw [hE.1]; exact nI_ne0 (by omega) (by omega), e6, ?_⟩⟩
      · rw [hE.1, nI_leI (by omega) (by omega)]; omega
      rw [nI_clamp (by omega), h46 i (by omega), hM.1.2.1, hE.1, ← hgt' i (by omega), hE.2 i (by omega)]
      refine c7_lengthOf hσ hM (hmb i (by omega)) (by omega) ?_
      rw [iz_add]
      have inner : ∀ (r2 a : Nat), a + r2 = i → am_J m7_weigh (d + 3) 50 [.ref 30, .int (iz (sumI (cbf σ mb k pl) i + sumI (fun a => if lc σ (mb i) (hgt σ k (pl i)) (mb a) (hgt σ k (pl a)) = true then 1 else 0) a)), .int (iz (sumI (lnf σ mb k pl) i + ll σ (mb i) (hgt σ k (pl i)))), .int (nI i), .int (iz (hgt σ k (pl i))), .int (nI a)] [] mem (fun r mem' => r = none ∧ P mem') := by
        intro r2
        induction r2 with
        | zero =>
          intro a ha
          have : a = i := by omega
          subst this
          refine sg7_weigh_50 ⟨fun _ => ?_, fun q => absurd (Int32.le_refl _) q⟩
          rw [nI_1]
          exact ih (a + 1) (by omega)
        | succ r2 ih2 =>
          intro a ha
          have a6 : vp_in (nI a) 6 := vp_in_nI (by omega) (by omega)
          have ga := hgt_rng hσ (k := k) (p := pl a) (by omega) (hp a (by omega))
          have ih2' := ih2 (a + 1) (by omega)
          refine sg7_weigh_50 ⟨fun q => absurd q ?_, fun _ => ⟨e6, a6, a6, by rw [hE.1]; exact nI_ne0 (by omega) (by omega), ?_⟩⟩
          · rw [nI_leI (by omega) (by omega)]; omega
          rw [nI_clamp (by omega), nI_clamp (by omega), h46 a (by omega), hM.1.2.1, hE.1, ← hgt' a (by omega), hE.2 i (by omega), hE.2 a (by omega)]
          simp only [sumI] at ih2'
          refine c7_lineCrosses (d := d) hσ hM (hmb i (by omega)) (hmb a (by omega)) (by omega) (by omega) ⟨fun q => sg7_weigh_101 ?_, fun q => sg7_weigh_101 ?_⟩
          · rw [nI_1, show (0 : Int32) = iz 0 from rfl, iz_add]
            rw [if_neg (by rw [bi_0.mp q]; decide)] at ih2'
            rw [Int.add_assoc]; exact ih2'
          · rw [nI_1, show (1 : Int32) = iz 1 from rfl, iz_add]
            rw [if_pos (bi_n0.mp q)] at ih2'
            rw [Int.add_assoc]; exact ih2'
      have := inner i 0 (by omega)
      simpa [sumI, nI_0] using this
  have := out k 0 (by omega)
  exact am_cv rfl rfl rfl (sg7_weigh_0 this)
