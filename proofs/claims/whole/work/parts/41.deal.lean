def RC (mem : am_Mem) (k : Nat) (b : Dl) : Prop := match b with
  | none => mem 26 5 = iz 1000000 ∧ mem 26 6 = iz 1000000
  | some q => mem 26 5 = iz q.1 ∧ mem 26 6 = iz q.2.1 ∧ ∀ i, i < k → mem 29 i = nI (q.2.2 i)
def dok (b : Dl) : Prop := match b with
  | none => True
  | some q => (0 ≤ q.1 ∧ q.1 ≤ 36) ∧ (0 ≤ q.2.1 ∧ q.2.1 ≤ 4800)
theorem cbf_rng (σ : mp_S) (mb : Nat → Nat) (k : Nat) (pl : Nat → Nat) (j : Nat) : 0 ≤ cbf σ mb k pl j ∧ cbf σ mb k pl j ≤ j * 1 := sumI_rng (fun i _ => by split <;> omega)
theorem lnf_rng {σ : mp_S} (hσ : s_ok σ) {mb : Nat → Nat} {k : Nat} {pl : Nat → Nat} {j : Nat} (hk : 0 < k) (hmb : mb j < s_n σ) (hp : pl j < k) : 0 ≤ lnf σ mb k pl j ∧ lnf σ mb k pl j ≤ 800 := ll_rng hσ hmb (hgt_rng hσ hk hp)
theorem tot_rng {σ : mp_S} (hσ : s_ok σ) {mb : Nat → Nat} {k : Nat} {pl : Nat → Nat} {j : Nat} (hk : k ≤ 6) (hj : j ≤ k) (hmb : ∀ i, i < k → mb i < s_n σ) (hp : ∀ i, i < j → pl i < k) : (0 ≤ sumI (cbf σ mb k pl) j ∧ sumI (cbf σ mb k pl) j ≤ 36) ∧ (0 ≤ sumI (lnf σ mb k pl) j ∧ sumI (lnf σ mb k pl) j ≤ 4800) := by
  have h1 := sumI_rng (f := cbf σ mb k pl) (m := 6) (c := j) (fun i hi => by have := cbf_rng σ mb k pl i; omega)
  have h2 := sumI_rng (f := lnf σ mb k pl) (m := 800) (c := j) (fun i hi => lnf_rng hσ (by omega) (hmb i (by omega)) (hp i hi))
  omega
theorem leaf_ok {σ : mp_S} (hσ : s_ok σ) {mb : Nat → Nat} {k : Nat} {pl : Nat → Nat} {b : Dl} (hk : k ≤ 6) (hmb : ∀ i, i < k → mb i < s_n σ) (hp : ∀ i, i < k → pl i < k) (hb : dok b) : dok (leafD σ mb k pl b) := by
  have ht := tot_rng hσ hk (Nat.le_refl k) hmb hp
  by_cases h : prm k pl
  · rw [leafD_pos h]
    unfold updD
    cases b with
    | none => exact ht
    | some q =>
      simp only
      split
      · exact ht
      · exact hb
  · rw [leafD_neg h]; exact hb
theorem dl_ok {σ : mp_S} (hσ : s_ok σ) {mb : Nat → Nat} {k : Nat} (hk : k ≤ 6) (hmb : ∀ i, i < k → mb i < s_n σ) : ∀ {r j : Nat} {pl : Nat → Nat} {b : Dl}, j + r = k → (∀ i, i < j → pl i < k) → dok b → dok (dl σ mb k r j pl b) := by
  intro r
  induction r with
  | zero => intro j pl b hj hp hb; exact leaf_ok hσ hk hmb (fun i hi => hp i (by omega)) hb
  | succ r ih =>
    intro j pl b hj hp hb
    simp only [dl]
    refine tlB_ok (I := dok) (fun p x _ hpk hx => ih (by omega) (fun i hi => ?_) hx) hb
    unfold rs; split
    · omega
    · exact hp i (by omega)
def sD (mem mem' : am_Mem) : Prop := (∀ a, a ≠ 26 → a ≠ 28 → a ≠ 29 → mem' a = mem a) ∧ ∀ j, j ≠ 5 → j ≠ 6 → mem' 26 j = mem 26 j
theorem sD_rf (mem : am_Mem) : sD mem mem := ⟨fun _ _ _ _ => rfl, fun _ _ _ => rfl⟩
theorem sD_28 {m0 m : am_Mem} (h : sD m0 m) {i : Nat} {v : Int32} : sD m0 (am_set m 28 i v) := ⟨fun a h1 h2 h3 => by rw [am_set_na _ _ h2]; exact h.1 a h1 h2 h3, fun j h1 h2 => by rw [am_set_na _ _ (by decide)]; exact h.2 j h1 h2⟩
theorem RC_28 {m : am_Mem} {k : Nat} {b : Dl} (h : RC m k b) {i : Nat} {v : Int32} : RC (am_set m 28 i v) k b := by
  unfold RC at *
  cases b with
  | none => simp only at *; rw [am_set_na _ _ (by decide)]; exact h
  | some q => simp only at *; rw [am_set_na _ _ (by decide), am_set_na _ _ (by decide)]; exact h
theorem c2_seekDeal {m0 : am_Mem} {σ : mp_S} {k : Nat} {mb : Nat → Nat} (hσ : s_ok σ) (hC : Ce m0 σ) (hk : k ≤ 6) (hE : El m0 k mb) (hmb : ∀ i, i < k → mb i < s_n σ) :
    ∀ (r j d : Nat) (mem : am_Mem) (t : Int32) (pl : Nat → Nat) (b : Dl) {P : am_Mem → Prop}, j + r = k → sD m0 mem → (∀ i, i < j → mem 28 i = nI (pl i)) → (∀ i, i < j → pl i < k) → (∀ a c, a < j → c < j → pl a = pl c → a = c) → (∀ p, p < 32 → (bt t p = true ↔ ∃ i, i < j ∧ pl i = p)) → RC mem k b → dok b →
      (∀ mem', sD m0 mem' → (∀ i, i < j → mem' 28 i = mem 28 i) → RC mem' k (dl σ mb k r j pl b) → P mem') →
      am_Cv m2_seekDeal (d + r + 4) [.ref 26, .int (nI j), .int t, .int (iz (sumI (cbf σ mb k pl) j)), .int (iz (sumI (lnf σ mb k pl) j))] mem P := by
  have hcut1 : ∀ pl j, j < k → 0 ≤ cbf σ mb k pl j := fun pl j _ => (cbf_rng σ mb k pl j).1
  have hcut2 : ∀ (pl : Nat → Nat) j, j < k → (∀ i, i ≤ j → pl i < k) → 0 ≤ lnf σ mb k pl j := fun pl j hj hp => (lnf_rng hσ (by omega) (hmb j hj) (hp j (by omega))).1
  -- behind the test: only if there may be a better one below this point
  have test : ∀ {D : Nat} (r j : Nat) (mem : am_Mem) (t : Int32) (pl : Nat → Nat) (b : Dl) {P : am_Mem → Prop}, j + r = k → sD m0 mem → (∀ i, i < j → pl i < k) → RC mem k b → dok b →
      (∀ mem', sD m0 mem' → (∀ i, i < j → mem' 28 i = mem 28 i) → RC mem' k (dl σ mb k r j pl b) → P mem') →
      ((∀ q, b = some q → sumI (cbf σ mb k pl) j < q.1 ∨ (sumI (cbf σ mb k pl) j = q.1 ∧ sumI (lnf σ mb k pl) j < q.2.1)) → am_J m2_seekDeal (D + 1) 26 [.ref 26, .int (nI j), .int t, .int (iz (sumI (cbf σ mb k pl) j)), .int (iz (sumI (lnf σ mb k pl) j)), .null] [] mem (fun r mem' => r = none ∧ P mem')) →
      am_J m2_seekDeal (D + 1) 0 [.ref 26, .int (nI j), .int t, .int (iz (sumI (cbf σ mb k pl) j)), .int (iz (sumI (lnf σ mb k pl) j)), .null] [] mem (fun r mem' => r = none ∧ P mem') := by
    intro D r j mem t pl b P hj hD hp hb hok h kk
    have ht := tot_rng hσ hk (show j ≤ k by omega) hmb hp
    refine sg2_seekDeal_0 ?_
    cases b with
    | none =>
      have hb : mem 26 5 = iz 1000000 ∧ mem 26 6 = iz 1000000 := hb
      rw [hb.1, hb.2, iz_lt (by omega) (by omega) (by omega) (by omega), iz_eq (by omega) (by omega) (by omega) (by omega)]
      exact ⟨fun q => absurd q (by omega), fun _ => ⟨fun _ => kk (fun q e => absurd e (by simp)), fun q => absurd q (by omega)⟩⟩
    | some q =>
      have hb' : mem 26 5 = iz q.1 ∧ mem 26 6 = iz q.2.1 ∧ ∀ i, i < k → mem 29 i = nI (q.2.2 i) := hb
      have hok : (0 ≤ q.1 ∧ q.1 ≤ 36) ∧ (0 ≤ q.2.1 ∧ q.2.1 ≤ 4800) := hok
      have cut : (q.1 < sumI (cbf σ mb k pl) j ∨ (sumI (cbf σ mb k pl) j = q.1 ∧ q.2.1 ≤ sumI (lnf σ mb k pl) j)) → ((none : Option Value) = none ∧ P mem) := fun w => ⟨rfl, h mem hD (fun _ _ => rfl) (by rw [dl_cut hcut1 hcut2 hj hp w]; exact hb)⟩
      rw [hb'.1, hb'.2.1, iz_lt (by omega) (by omega) (by omega) (by omega), iz_eq (by omega) (by omega) (by omega) (by omega), iz_lt (by omega) (by omega) (by omega) (by omega)]
      refine ⟨fun w => cut (Or.inl w), fun w => ⟨fun w1 => kk (fun q' e => ?_), fun w1 => ⟨fun w2 => kk (fun q' e => ?_), fun w2 => cut (Or.inr ⟨w1, by omega⟩)⟩⟩⟩
      · cases e; omega
      · cases e; omega
  intro r
  induction r with
  | zero =>
    intro j d mem t pl b P hj hD h28 hp hinj ht hb hok h
    have : j = k := by omega
    subst this
    refine am_cv rfl rfl rfl (test (D := d + 3) 0 j mem t pl b (by omega) hD hp hb hok h (fun hbet => ?_))
    have hl : mem 26 1 = nI j := by rw [hD.2 1 (by decide) (by decide)]; exact hE.1
    refine sg2_seekDeal_26 ⟨fun q => absurd q (by rw [hl]; exact nI_nlt (by omega) (by omega)), fun _ => ⟨rfl, ?_⟩⟩
    rw [show ((0 : Int32)).toNatClampNeg = 0 from rfl, show ((6 : Int32)).toNatClampNeg = 6 from rfl]
    have hprm : prm j pl := php j pl hp hinj
    have hdl : dl σ mb j 0 j pl b = some (sumI (cbf σ mb j pl) j, sumI (lnf σ mb j pl) j, nrm j pl) := by
      simp only [dl]
      rw [leafD_pos hprm]
      unfold updD
      cases b with
      | none => rfl
      | some q => simp only; rw [if_pos (hbet q rfl)]
    refine h _ ⟨fun a h1 h2 h3 => ?_, fun i h1 h2 => ?_⟩ (fun i hi => ?_) ?_
    · rw [am_put_ne _ _ h3, am_set_na _ _ h1, am_set_na _ _ h1]; exact hD.1 a h1 h2 h3
    · rw [am_put_ne _ _ (by decide), am_set_nj _ _ h2, am_set_nj _ _ h1]; exact hD.2 i h1 h2
    · rw [am_put_ne _ _ (by decide), am_set_na _ _ (by decide), am_set_na _ _ (by decide)]
    · rw [hdl]
      refine ⟨?_, ?_, fun i hi => ?_⟩
      · rw [am_put_ne _ _ (by decide), am_set_nj _ _ (by decide), am_set_eq]
      · rw [am_put_ne _ _ (by decide), am_set_eq]
      · rw [am_put_same, am_set_na _ _ (by decide), am_set_na _ _ (by decide)]
        have : va_cpy (mem 28) ((am_set (am_set mem 26 5 (iz (sumI (cbf σ mb j pl) j))) 26 6 (iz (sumI (lnf σ mb j pl) j))) 29) 0 0 6 i = mem 28 i := by
          unfold va_cpy; rw [if_pos (by omega)]; simp
        rw [this, h28 i hi]
        unfold nrm
        simp [hi]
  | succ r ih =>
    intro j d mem t pl b P hj hD h28 hp hinj ht hb hok h
    refine am_cv rfl rfl rfl (test (D := d + r + 4) (r + 1) j mem t pl b (by omega) hD hp hb hok h (fun _ => ?_))
    have hlm : ∀ m, sD m0 m → m 26 1 = nI k := fun m hm => by rw [hm.2 1 (by decide) (by decide)]; exact hE.1
    refine sg2_seekDeal_26 ⟨fun _ => ?_, fun q => absurd (by rw [hlm mem hD]; exact nI_lt (by omega) (by omega)) q⟩
    have loop : ∀ (u p : Nat) (mem : am_Mem) (b : Dl), p + u = k → sD m0 mem → (∀ i, i < j → mem 28 i = nI (pl i)) → RC mem k b → dok b →
        (∀ mem', sD m0 mem' → (∀ i, i < j → mem' 28 i = mem 28 i) → RC mem' k (tlB (fun p b => dl σ mb k r (j + 1) (rs pl j p) b) u p b) → P mem') →
        am_J m2_seekDeal (d + r + 4 + 1) 64 [.ref 26, .int (nI j), .int t, .int (iz (sumI (cbf σ mb k pl) j)), .int (iz (sumI (lnf σ mb k pl) j)), .int (nI p)] [] mem (fun r mem' => r = none ∧ P mem') := by
      intro u
      induction u with
      | zero =>
        intro p mem b hpu hD h28 hb hok h
        have : p = k := by omega
        subst this
        refine sg2_seekDeal_64 ⟨fun _ => ⟨rfl, h mem hD (fun _ _ => rfl) hb⟩, fun q => absurd ?_ q⟩
        rw [hlm mem hD]; exact Int32.le_refl _
      | succ u ihu =>
        intro p mem b hpu hD h28 hb hok h
        have e6 : vp_in (nI j) 6 := vp_in_nI (by omega) (by omega)
        have hrp : ∀ i, i < j + 1 → rs pl j p i < k := fun i hi => by
          unfold rs; split
          · omega
          · exact hp i (by omega)
        refine sg2_seekDeal_64 ⟨fun q => absurd q ?_, fun _ => c6_hasBit (by omega) ⟨fun q => sg2_seekDeal_118 ?_, fun q => ⟨e6, ?_⟩⟩⟩
        · rw [hlm mem hD, nI_leI (by omega) (by omega)]; omega
        · -- that place is taken
          rw [nI_1]
          obtain ⟨i, hi, e⟩ := (ht p (by omega)).mp (bi_n0.mp q)
          have hid : dl σ mb k r (j + 1) (rs pl j p) b = b := dl_dup (by omega) hrp ⟨i, j, hi, by omega, by simp only [rs, if_true]; rw [if_neg (by omega)]; exact e⟩
          refine ihu (p + 1) mem b (by omega) hD h28 hb hok (fun m' g1 g2 g3 => h m' g1 g2 ?_)
          simp only [tlB, hid]; exact g3
        · have hfree : ¬ ∃ i, i < j ∧ pl i = p := fun w => by
            have := (ht p (by omega)).mpr w
            rw [bi_0.mp q] at this; exact absurd this (by decide)
          rw [nI_clamp (by omega)]
          generalize hm1 : am_set mem 28 j (nI p) = m1
          have hD1 : sD m0 m1 := hm1 ▸ sD_28 hD
          have hb1 : RC m1 k b := hm1 ▸ RC_28 hb
          have h281 : ∀ i, i < j + 1 → m1 28 i = nI (rs pl j p i) := fun i hi => by
            rw [← hm1]
            by_cases hij : i = j
            · subst hij; rw [am_set_eq]; simp [rs]
            · rw [am_set_nj _ _ hij, h28 i (by omega)]; simp [rs, hij]
          have hC1 : Ce m1 σ := hC.keep (fun a ha => hD1.1 a (by omega) (by omega) (by omega))
          have hE1 : El m1 k mb := ⟨hlm m1 hD1, fun i hi => by rw [hD1.1 27 (by decide) (by decide) (by decide)]; exact hE.2 i hi⟩
          refine c2_crossedBefore (d := d + r + 1) (pl := rs pl j p) hσ hC1 hk (by omega) hE1 hmb (fun i hi => h281 i (by omega)) (fun i hi => hrp i (by omega)) ?_
          refine c2_lengthOf (d := d + r + 3) (pl := rs pl j p) hσ hC1 hk (by omega) hE1 hmb (h281 j (by omega)) (hrp j (by omega)) ?_
          rw [iz_add, iz_add, show nI j + (1 : Int32) = nI (j + 1) from nI_1 j]
          have e1 : sumI (cbf σ mb k pl) j + cbf σ mb k (rs pl j p) j = sumI (cbf σ mb k (rs pl j p)) (j + 1) := by
            simp only [sumI]
            congr 1
            exact sumI_congr (fun i hi => cbf_congr (fun a ha => by unfold rs; rw [if_neg (by omega)]))
          have e2 : sumI (lnf σ mb k pl) j + lnf σ mb k (rs pl j p) j = sumI (lnf σ mb k (rs pl j p)) (j + 1) := by
            simp only [sumI]
            congr 1
            exact sumI_congr (fun i hi => lnf_congr (by unfold rs; rw [if_neg (by omega)]))
          rw [e1, e2]
          refine ih (j + 1) d m1 _ (rs pl j p) b (by omega) hD1 h281 hrp (fun a c ha hc e => ?_) (fun x hx => ?_) hb1 hok (fun m2 g1 g2 g3 => sg2_seekDeal_118 ?_)
          · simp only [rs] at e
            by_cases a1 : a = j
            · by_cases c1 : c = j
              · omega
              · rw [if_pos a1, if_neg c1] at e
                exact absurd ⟨c, by omega, e.symm⟩ hfree
            · by_cases c1 : c = j
              · rw [if_neg a1, if_pos c1] at e
                exact absurd ⟨a, by omega, e⟩ hfree
              · rw [if_neg a1, if_neg c1] at e
                exact hinj a c (by omega) (by omega) e
          · rw [b_or, bt_one p (by omega) hx, Bool.or_eq_true, ht x hx, decide_eq_true_eq]
            constructor
            · rintro (⟨i, hi, e⟩ | e)
              · exact ⟨i, by omega, by simp only [rs]; rw [if_neg (by omega)]; exact e⟩
              · exact ⟨j, by omega, by simp only [rs, if_true]; exact e.symm⟩
            · rintro ⟨i, hi, e⟩
              simp only [rs] at e
              by_cases hij : i = j
              · rw [if_pos hij] at e; exact Or.inr e.symm
              · rw [if_neg hij] at e; exact Or.inl ⟨i, by omega, e⟩
          · rw [nI_1]
            have r28 : ∀ i, i < j → m2 28 i = mem 28 i := fun i hi => by rw [g2 i (by omega), ← hm1, am_set_nj _ _ (by omega)]
            exact ihu (p + 1) m2 _ (by omega) g1 (fun i hi => by rw [r28 i hi]; exact h28 i hi) g3 (dl_ok hσ hk hmb (by omega) hrp hok) (fun m' l1 l2 l3 => h m' l1 (fun i hi => by rw [l2 i hi, r28 i hi]) l3)
    exact loop k 0 mem b (by omega) hD h28 hb hok (fun m' g1 g2 g3 => h m' g1 g2 g3)
/-- the SITES of a set, and how many -/
def mbl (n : Nat) (set : Int32) : List Nat := (List.range n).filter (fun s => bt set s)
def mbf (n : Nat) (set : Int32) (i : Nat) : Nat := (mbl n set).getD i 0
theorem mbl_succ (n : Nat) (set : Int32) : mbl (n + 1) set = mbl n set ++ (if bt set n = true then [n] else []) := by
  unfold mbl
  rw [List.range_succ, List.filter_append]
  congr 1
  by_cases h : bt set n = true
  · simp [h]
  · simp [h]
theorem mbl_mem {n : Nat} {set : Int32} {a : Nat} : a ∈ mbl n set ↔ a < n ∧ bt set a = true := by
  unfold mbl; rw [List.mem_filter, List.mem_range]
theorem mbl_mono {n m : Nat} (h : n ≤ m) (set : Int32) : (mbl n set).length ≤ (mbl m set).length := by
  induction m with
  | zero => have : n = 0 := by omega
            subst this; exact Nat.le_refl _
  | succ m ih =>
    by_cases hm : n = m + 1
    · subst hm; exact Nat.le_refl _
    · have := ih (by omega)
      rw [mbl_succ, List.length_append]; omega
/-- THE BEST DEAL -/
noncomputable def Bdl (σ : mp_S) (set : Int32) : Dl := dl σ (mbf (s_n σ) set) (mbl (s_n σ) set).length (mbl (s_n σ) set).length 0 (fun _ => 0) none
theorem c2_deal {d : Nat} {mem : am_Mem} {P : am_Mem → Prop} {σ : mp_S} {set : Int32} (hσ : s_ok σ) (hC : Ch mem σ) (h6 : (mbl (s_n σ) set).length ≤ 6) (h : ∀ mem', sm 26 30 mem mem' → El mem' (mbl (s_n σ) set).length (mbf (s_n σ) set) → RC mem' (mbl (s_n σ) set).length (Bdl σ set) → P mem') : am_Cv m2_deal (d + 11) [.ref 26, .int set] mem P := by
  have hn := hσ.1
  have hmb : ∀ i, i < (mbl (s_n σ) set).length → mbf (s_n σ) set i < s_n σ := fun i hi => (mbl_mem.mp (getD_mem hi)).1
  have fin : ∀ m, sm 26 30 mem m → El m (mbl (s_n σ) set).length (mbf (s_n σ) set) → am_J m2_deal (d + 11) 61 [.ref 26, .null, .null] [] m (fun r mem' => r = none ∧ P mem') := by
    intro m hm hE
    refine sg2_deal_61 ?_
    generalize hm1 : am_set (am_set m 26 5 1000000) 26 6 1000000 = m1
    have s1 : sm 26 30 mem m1 := hm1 ▸ sm_set (sm_set hm (by omega) (by omega)) (by omega) (by omega)
    have hE1 : El m1 (mbl (s_n σ) set).length (mbf (s_n σ) set) := ⟨by rw [← hm1, am_set_nj _ _ (by decide), am_set_nj _ _ (by decide)]; exact hE.1, fun i hi => by rw [← hm1, am_set_na _ _ (by decide), am_set_na _ _ (by decide)]; exact hE.2 i hi⟩
    have hC1 : Ce m1 σ := hC.ce.keep (fun a ha => s1 a (by omega))
    have hT0 : ∀ p, p < 32 → (bt 0 p = true ↔ ∃ i, i < 0 ∧ (fun _ => 0 : Nat → Nat) i = p) := by
      intro p hp
      rw [b_0]
      constructor
      · intro q; exact absurd q (by decide)
      · rintro ⟨i, hi, -⟩; exact absurd hi (by omega)
    have hd : d + 10 = (d + 6 - (mbl (s_n σ) set).length) + (mbl (s_n σ) set).length + 4 := by omega
    rw [hd]
    refine c2_seekDeal (m0 := m1) hσ hC1 h6 hE1 hmb (mbl (s_n σ) set).length 0 _ m1 0 (fun _ => 0) none (by omega) (sD_rf m1) (fun i hi => absurd hi (by omega)) (fun i hi => absurd hi (by omega)) (fun a c ha => absurd ha (by omega)) hT0 ⟨by rw [← hm1, am_set_nj _ _ (by decide), am_set_eq]; rfl, by rw [← hm1, am_set_eq]; rfl⟩ trivial (fun m2 g1 g2 g3 => ⟨rfl, h m2 (fun a ha => ?_) ⟨?_, fun i hi => ?_⟩ g3⟩)
    · rw [g1.1 a (by omega) (by omega) (by omega)]; exact s1 a ha
    · rw [g1.2 1 (by decide) (by decide)]; exact hE1.1
    · rw [g1.1 27 (by decide) (by decide) (by decide)]; exact hE1.2 i hi
  have loop : ∀ (r s : Nat) (m : am_Mem), s + r = s_n σ → sm 26 30 mem m → m 26 1 = nI (mbl s set).length → (∀ i, i < (mbl s set).length → m 27 i = nI ((mbl s set).getD i 0)) → am_J m2_deal (d + 11) 7 [.ref 26, .int set, .int (nI s)] [] m (fun r mem' => r = none ∧ P mem') := by
    intro r
    induction r with
    | zero =>
      intro s m hs hm h1 h2
      have : s = s_n σ := by omega
      subst this
      refine sg2_deal_7 ⟨fun _ => fin m hm ⟨h1, h2⟩, fun q => absurd ?_ q⟩
      rw [hm 1 (by omega), hC.2.2.2.2.1]; exact Int32.le_refl _
    | succ r ih =>
      intro s m hs hm h1 h2
      have hle : (mbl (s + 1) set).length ≤ 6 := Nat.le_trans (mbl_mono (by omega) set) h6
      have hms := mbl_succ s set
      refine sg2_deal_7 ⟨fun q => absurd q ?_, fun _ => ?_⟩
      · rw [hm 1 (by omega), hC.2.2.2.2.1, nI_leI (by omega) (by omega)]; omega
      have hlen : (mbl s set).length ≤ 6 := Nat.le_trans (mbl_mono (by omega) set) h6
      rw [h1, show (6 : Int32) = nI 6 from rfl, nI_leI (by omega) (by omega)]
      refine ⟨fun q => ?_, fun q => c6_hasBit (by omega) ⟨fun q1 => sg2_deal_55 ?_, fun q1 => ?_⟩⟩
      · -- six already: none follows
        have e : mbl (s_n σ) set = mbl s set := by
          have key : ∀ t, (mbl (s + t) set).length ≤ 6 → mbl (s + t) set = mbl s set := by
            intro t
            induction t with
            | zero => intro _; rfl
            | succ t iht =>
              intro hl
              rw [show s + (t + 1) = (s + t) + 1 by omega] at hl ⊢
              rw [mbl_succ] at hl ⊢
              have e := iht (by rw [List.length_append] at hl; omega)
              rw [e] at hl ⊢
              split
              · rename_i hb
                rw [if_pos hb, List.length_append] at hl
                simp at hl; omega
              · simp
          have := key (r + 1) (by rw [hs]; exact h6)
          rw [hs] at this; exact this
        refine fin m hm ⟨by rw [e]; exact h1, fun i hi => ?_⟩
        rw [e] at hi
        unfold mbf
        rw [e]; exact h2 i hi
      · rw [nI_1]
        rw [if_neg (by rw [bi_0.mp q1]; decide), List.append_nil] at hms
        exact ih (s + 1) m (by omega) hm (by rw [hms]; exact h1) (by rw [hms]; exact h2)
      · rw [if_pos (bi_n0.mp q1)] at hms
        have hl1 : (mbl (s + 1) set).length = (mbl s set).length + 1 := by rw [hms, List.length_append]; rfl
        rw [h1, nI_clamp (by omega)]
        refine ⟨vp_in_nI (by omega) (by omega), sg2_deal_55 ?_⟩
        rw [nI_1, am_set_na _ _ (show (26 : Nat) ≠ 27 by decide), h1, show nI (mbl s set).length + (1 : Int32) = nI ((mbl s set).length + 1) from nI_1 _]
        refine ih (s + 1) _ (by omega) (sm_set (sm_set hm (by omega) (by omega)) (by omega) (by omega)) (by rw [am_set_eq, hl1]) (fun i hi => ?_)
        rw [am_set_na _ _ (by decide), hms, getD_app]
        by_cases hil : i = (mbl s set).length
        · subst hil
          rw [am_set_eq, if_neg (by omega), Nat.sub_self]; rfl
        · rw [am_set_nj _ _ hil, if_pos (by omega)]
          exact h2 i (by omega)
  refine am_cv rfl rfl rfl (sg2_deal_0 (loop (s_n σ) 0 _ (by omega) (sm_set (sm_rf _ _ _) (by omega) (by omega)) (by rw [am_set_eq]; rfl) (fun i hi => absurd hi (by simp [mbl]))))
