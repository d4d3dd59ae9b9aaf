theorem pow_le6 {k : Nat} (h : k ≤ 6) : k ^ k ≤ 46656 := Nat.le_trans (Nat.pow_le_pow_left h k) (Nat.le_trans (Nat.pow_le_pow_right (by omega) h) (by decide))
theorem pow_le6' {k i : Nat} (h : k ≤ 6) (hi : i ≤ 6) : k ^ i ≤ 46656 := Nat.le_trans (Nat.pow_le_pow_left h i) (Nat.le_trans (Nat.pow_le_pow_right (by omega) hi) (by decide))
theorem RM_46 {m : am_Mem} {k : Nat} {b : Dl} (h : RM m k b) {i : Nat} {v : Int32} : RM (am_set m 46 i v) k b := by
  unfold RM at *
  cases b with
  | none => simp only at *; rw [am_set_na _ _ (by decide)]; exact h
  | some q => simp only at *; rw [am_set_na _ _ (by decide), am_set_na _ _ (by decide)]; exact h
theorem Em_46 {m : am_Mem} {k : Nat} {mb : Nat → Nat} (h : Em m k mb) {i : Nat} {v : Int32} : Em (am_set m 46 i v) k mb := by
  unfold Em at *
  rw [am_set_na _ _ (by decide), am_set_na _ _ (by decide)]; exact h
theorem dealJ {d : Nat} {m0 : am_Mem} {P : am_Mem → Prop} {σ : mp_S} {k : Nat} {mb : Nat → Nat} (hσ : s_ok σ) (hM : Mo m0 σ 1 0) (hk : k ≤ 6) (hmb : ∀ i, i < k → mb i < s_n σ) :
    ∀ (r code : Nat) (m : am_Mem) (b : Dl), code + r = k ^ k → md m0 m → Em m k mb → RM m k b → dok b → (∀ m', md m0 m' → Em m' k mb → RM m' k (tlB (fun code b => leafD σ mb k (dig k code) b) r code b) → P m') →
      am_J m7_layDeal (d + 4) 89 [.ref 30, .null, .int (nI (k ^ k)), .int (nI code), .null, .null] [] m (fun r mem' => r = none ∧ P mem') := by
  have hkk := pow_le6 hk
  intro r
  induction r with
  | zero =>
    intro code m b hc hm hE hb hok h
    have : code = k ^ k := by omega
    subst this
    exact sg7_layDeal_89 ⟨fun _ => ⟨rfl, h m hm hE hb⟩, fun q => absurd (Int32.le_refl _) q⟩
  | succ r ih =>
    intro code m b hc hm hE hb hok h
    refine sg7_layDeal_89 ⟨fun q => absurd q (by rw [nI_leI (by omega) (by omega)]; omega), fun _ => ?_⟩
    rw [hE.1]
    have inner : ∀ (j : Nat) (m : am_Mem), j ≤ k → md m0 m → Em m k mb → RM m k b → (∀ i, j ≤ i → i < k → m 46 i = nI (dig k code i)) →
        am_J m7_layDeal (d + 4) 105 [.ref 30, .null, .int (nI (k ^ k)), .int (nI code), .int (nI (code / k ^ (k - j))), .int (nI j - 1)] [] m (fun r mem' => r = none ∧ P mem') := by
      intro j
      induction j with
      | zero =>
        intro m _ hm hE hb h46
        have hp : ∀ i, i < k → dig k code i < k := fun i hi => Nat.mod_lt _ (by omega)
        have e46 : ∀ i, i < k → m 46 i = nI (dig k code i) := fun i hi => h46 i (by omega) hi
        refine sg7_layDeal_105 ⟨fun _ => ?_, fun q => absurd (by decide) q⟩
        refine c7_isDeal hk hE.1 e46 hp (fun hp1 => ⟨fun q => absurd q (by decide), fun _ => ?_⟩) (fun hp0 => ⟨fun _ => sg7_layDeal_150 ?_, fun q => absurd rfl q⟩)
        · refine c7_weigh (d := d) hσ (hM.md hm) hk hE hmb e46 hp hb hok (fun m2 g1 g2 => sg7_layDeal_150 ?_)
          rw [nI_1]
          refine ih (code + 1) m2 (leafD σ mb k (dig k code) b) (by omega) (md_tr hm ⟨fun a h1 h2 => g1.1 a h1 (by omega), fun j hj => g1.2 j (by omega) (by omega)⟩) ⟨by rw [g1.2 27 (by decide) (by decide)]; exact hE.1, fun i hi => by rw [g1.1 45 (by decide) (by decide)]; exact hE.2 i hi⟩ ?_ (leaf_ok hσ hk hmb hp hok) h
          rw [leafD_pos hp1]; exact g2
        · rw [nI_1]
          refine ih (code + 1) m (leafD σ mb k (dig k code) b) (by omega) hm hE ?_ (leaf_ok hσ hk hmb hp hok) h
          rw [leafD_neg hp0]; exact hb
      | succ j ihj =>
        intro m hj hm hE hb h46
        have hv : code / k ^ (k - (j + 1)) < 2 ^ 31 := Nat.lt_of_le_of_lt (Nat.div_le_self _ _) (by omega)
        have e1 : code / k ^ (k - (j + 1)) / k = code / k ^ (k - j) := by
          rw [Nat.div_div_eq_div_mul, ← Nat.pow_succ]
          congr 2; omega
        rw [nI_pred]
        refine sg7_layDeal_105 ⟨fun q => absurd q (nI_pos (by omega)), fun _ => ?_⟩
        rw [am_set_na _ _ (show (30 : Nat) ≠ 46 by decide), hE.1, pk_rem hv (by omega) (by omega), pk_div hv (by omega) (by omega), nI_clamp (by omega), e1, show nI j + (-1 : Int32) = nI j - 1 from (Int32.sub_eq_add_neg _ _).symm]
        refine ⟨nI_ne0 (by omega) (by omega), vp_in_nI (by omega) (by omega), nI_ne0 (by omega) (by omega), ?_⟩
        refine ihj _ (by omega) (md_set hm (by omega)) (Em_46 hE) (RM_46 hb) (fun i h1 h2 => ?_)
        by_cases hij : i = j
        · subst hij
          rw [am_set_eq]
          unfold dig
          rw [show k - 1 - i = k - (i + 1) by omega]
        · rw [am_set_nj _ _ hij]; exact h46 i (by omega) h2
    have := inner k m (Nat.le_refl k) hm hE hb (fun i h1 h2 => absurd h1 (by omega))
    rw [Nat.sub_self, Nat.pow_zero, Nat.div_one] at this
    exact this
theorem Bdl_codes {σ : mp_S} {mb : Nat → Nat} (k : Nat) : tlB (fun code b => leafD σ mb k (dig k code) b) (k ^ k) 0 none = dl σ mb k k 0 (fun _ => 0) none := by
  by_cases h0 : k = 0
  · subst h0
    show leafD σ mb 0 (dig 0 0) none = _
    have : leafD σ mb 0 (dig 0 0) none = dl σ mb 0 0 0 (dig 0 0) none := by simp only [dl]
    rw [this]
    exact dl_congr rfl (fun i hi => absurd hi (by omega))
  · have := dl_codes (σ := σ) (mb := mb) (k := k) (by omega) k 0 none (Nat.le_refl k)
    rw [Nat.zero_mul, Nat.sub_self] at this
    rw [this]
    exact dl_congr (by omega) (fun i hi => absurd hi (by omega))
theorem c7_layDeal {d : Nat} {mem : am_Mem} {P : am_Mem → Prop} {σ : mp_S} {set : Int32} (hσ : s_ok σ) (hM : Mo mem σ 1 0) (h6 : (mbl (s_n σ) set).length ≤ 6) (h : ∀ mem', md mem mem' → Em mem' (mbl (s_n σ) set).length (mbf (s_n σ) set) → RM mem' (mbl (s_n σ) set).length (Bdl σ set) → P mem') : am_Cv m7_layDeal (d + 4) [.ref 30, .int set] mem P := by
  have hn := hσ.1
  have hmb : ∀ i, i < (mbl (s_n σ) set).length → mbf (s_n σ) set i < s_n σ := fun i hi => (mbl_mem.mp (getD_mem hi)).1
  have fin : ∀ (r i : Nat) (m : am_Mem), i + r = (mbl (s_n σ) set).length → md mem m → Em m (mbl (s_n σ) set).length (mbf (s_n σ) set) → am_J m7_layDeal (d + 4) 54 [.ref 30, .null, .int (nI ((mbl (s_n σ) set).length ^ i)), .int (nI i), .null, .null] [] m (fun r mem' => r = none ∧ P mem') := by
    intro r
    induction r with
    | zero =>
      intro i m hi hm hE
      have : i = (mbl (s_n σ) set).length := by omega
      subst this
      refine sg7_layDeal_54 ⟨fun _ => ?_, fun q => absurd (by rw [hE.1]; exact Int32.le_refl _) q⟩
      refine dealJ (m0 := mem) hσ hM h6 hmb (k := (mbl (s_n σ) set).length) ((mbl (s_n σ) set).length ^ (mbl (s_n σ) set).length) 0 _ none (by omega) (md_fld (md_fld hm (by omega)) (by omega)) ⟨by rw [am_set_nj _ _ (by decide), am_set_nj _ _ (by decide)]; exact hE.1, fun i hi => by rw [am_set_na _ _ (by decide), am_set_na _ _ (by decide)]; exact hE.2 i hi⟩ ⟨by rw [am_set_nj _ _ (by decide), am_set_eq]; rfl, by rw [am_set_eq]; rfl⟩ trivial (fun m' g1 g2 g3 => h m' g1 g2 ?_)
      rw [Bdl_codes] at g3; exact g3
    | succ r ih =>
      intro i m hi hm hE
      refine sg7_layDeal_54 ⟨fun q => absurd q ?_, fun _ => ?_⟩
      · rw [hE.1, nI_leI (by omega) (by omega)]; omega
      · rw [hE.1, nI_1, pk_mul, ← Nat.pow_succ]
        exact ih (i + 1) m (by omega) hm hE
  have loop : ∀ (r s : Nat) (m : am_Mem), s + r = s_n σ → md mem m → m 30 27 = nI (mbl s set).length → (∀ i, i < (mbl s set).length → m 45 i = nI ((mbl s set).getD i 0)) → am_J m7_layDeal (d + 4) 9 [.ref 30, .int set, .int 1, .int (nI s), .null, .null] [] m (fun r mem' => r = none ∧ P mem') := by
    intro r
    induction r with
    | zero =>
      intro s m hs hm h1 h2
      have : s = s_n σ := by omega
      subst this
      refine sg7_layDeal_9 ⟨fun _ => ?_, fun q => absurd ?_ q⟩
      · have := fin (mbl (s_n σ) set).length 0 m (by omega) hm ⟨h1, h2⟩
        rw [Nat.pow_zero] at this
        exact this
      · rw [hm.2 2 (by omega), hM.1.2.2.1]; exact Int32.le_refl _
    | succ r ih =>
      intro s m hs hm h1 h2
      have hle : (mbl (s + 1) set).length ≤ 6 := Nat.le_trans (mbl_mono (by omega) set) h6
      have hms := mbl_succ s set
      refine sg7_layDeal_9 ⟨fun q => absurd q ?_, fun _ => ?_⟩
      · rw [hm.2 2 (by omega), hM.1.2.2.1, nI_leI (by omega) (by omega)]; omega
      rw [bit_s set s (by omega), bi_1]
      refine ⟨fun q1 => sg7_layDeal_46 ?_, fun q1 => ?_⟩
      · rw [nI_1]
        rw [if_neg q1, List.append_nil] at hms
        exact ih (s + 1) m (by omega) hm (by rw [hms]; exact h1) (by rw [hms]; exact h2)
      · rw [if_pos q1] at hms
        have hl1 : (mbl (s + 1) set).length = (mbl s set).length + 1 := by rw [hms, List.length_append]; rfl
        rw [h1, nI_clamp (by omega)]
        refine ⟨vp_in_nI (by omega) (by omega), sg7_layDeal_46 ?_⟩
        rw [nI_1, am_set_na _ _ (show (30 : Nat) ≠ 45 by decide), h1, show nI (mbl s set).length + (1 : Int32) = nI ((mbl s set).length + 1) from nI_1 _]
        refine ih (s + 1) _ (by omega) (md_fld (md_set hm (by omega)) (by omega)) (by rw [am_set_eq, hl1]) (fun i hi => ?_)
        rw [am_set_na _ _ (by decide), hms, getD_app]
        by_cases hil : i = (mbl s set).length
        · subst hil
          rw [am_set_eq, if_neg (by omega), Nat.sub_self]; rfl
        · rw [am_set_nj _ _ hil, if_pos (by omega)]
          exact h2 i (by omega)
  refine am_cv rfl rfl rfl (sg7_layDeal_0 (loop (s_n σ) 0 _ (by omega) (md_fld (md_rf _) (by omega)) (by rw [am_set_eq]; rfl) (fun i hi => absurd hi (by simp [mbl]))))
/-- which numbers are sets for LINES -/
def isl (n : Nat) (set : Int32) : Bool := decide ((set &&& (ev n ^^^ (-1 : Int32))) = 0) && decide ((mbl n set).length ≤ 6)
theorem ev_and {n : Nat} (hn : n ≤ 8) (set : Int32) : (set &&& (ev n ^^^ (-1 : Int32))) = 0 ↔ ∀ i, i < 32 → n ≤ i → bt set i = false := by
  have key : ∀ i, i < 32 → bt (set &&& (ev n ^^^ (-1 : Int32))) i = (bt set i && decide (n ≤ i)) := by
    intro i hi
    rw [b_and, b_xor, ev_bt hn, b_m1 i hi]
    by_cases h : i < n
    · rw [decide_eq_true h, decide_eq_false (by omega)]; rfl
    · rw [decide_eq_false h, decide_eq_true (by omega)]; rfl
  constructor
  · intro h i hi hni
    have := key i hi
    rw [h, b_0, decide_eq_true hni, Bool.and_true] at this
    exact this.symm
  · intro h
    apply b_ext
    intro i hi
    rw [key i hi, b_0]
    by_cases hni : n ≤ i
    · rw [h i hi hni]; rfl
    · rw [decide_eq_false hni, Bool.and_false]
theorem ev_toInt : ∀ n, n ≤ 8 → (ev n).toInt = 2 ^ n - 1 := by
  intro n hn
  exact (by decide +kernel : ∀ n, n < 9 → (ev n).toInt = 2 ^ n - 1) n (by omega)
theorem ev_in {n : Nat} (hn : n ≤ 8) (set : Int32) : (0 ≤ set.toInt ∧ set.toInt ≤ (ev n).toInt) ↔ (set &&& (ev n ^^^ (-1 : Int32))) = 0 := by
  rw [ev_and hn, ev_toInt n hn]
  have hp : (2 : Nat) ^ n ≤ 256 := Nat.le_trans (Nat.pow_le_pow_right (by omega) hn) (by decide)
  have hpi : ((2 : Int) ^ n) = ((2 ^ n : Nat) : Int) := by simp
  rw [hpi]
  have e1 : set.toInt = set.toBitVec.toInt := rfl
  have hlt : set.toBitVec.toNat < 2 ^ 32 := set.toBitVec.isLt
  have e2 := BitVec.toInt_eq_toNat_cond set.toBitVec
  have e3 : ∀ i, bt set i = set.toBitVec.toNat.testBit i := fun i => rfl
  constructor
  · rintro ⟨h1, h2⟩ i hi hni
    rw [e1] at h1 h2
    rw [e3]
    apply Nat.testBit_lt_two_pow
    have h3 : set.toBitVec.toNat < 2 ^ n := by
      split at e2 <;> omega
    exact Nat.lt_of_lt_of_le h3 (Nat.pow_le_pow_right (by omega) hni)
  · intro h
    have h3 : set.toBitVec.toNat < 2 ^ n := by
      apply Nat.lt_pow_two_of_testBit
      intro i hi
      rw [← e3]
      by_cases h32 : i < 32
      · exact h i h32 hi
      · exact b_big (by omega)
    rw [e1]
    split at e2 <;> omega
theorem mbl_len8 {n : Nat} (hn : n ≤ 8) {set : Int32} (h : ∀ i, i < 32 → n ≤ i → bt set i = false) : ∀ m, n ≤ m → m ≤ 32 → mbl m set = mbl n set := by
  intro m
  induction m with
  | zero => intro h1 _; have : n = 0 := by omega
            subst this; rfl
  | succ m ih =>
    intro h1 h2
    by_cases hm : n = m + 1
    · subst hm; rfl
    · rw [mbl_succ, h m (by omega) (by omega), if_neg (by decide), List.append_nil, ih (by omega) (by omega)]
theorem c7_isSet {d : Nat} {mem : am_Mem} {P : Int32 → am_Mem → Prop} {n : Nat} {set : Int32} (hn : n ≤ 8) (hN : mem 30 2 = nI n) (h : P (bi (isl n set)) mem) : am_Ci m7_isSet (d + 1) [.ref 30, .int set] mem P := by
  have hlen : ∀ s, (mbl s set).length ≤ s := fun s => by unfold mbl; exact Nat.le_trans (List.length_filter_le _ _) (by simp)
  have loop : ∀ (r s : Nat), s + r = 8 → am_J m7_isSet (d + 1) 4 [.ref 30, .int set, .int (nI (mbl s set).length), .int (nI s)] [] mem (fun r mem' => ∃ x, r = some (.int x) ∧ P x mem') := by
    intro r
    induction r with
    | zero =>
      intro s hs
      have : s = 8 := by omega
      subst this
      have h8 := hlen 8
      refine sg7_isSet_4 ⟨fun _ => c7_in ?_, fun q => absurd (by decide) q⟩
      rw [hN, ev_eq n hn, Int32.toInt_toInt64, Int32.toInt_toInt64, show (0 : Int64).toInt = 0 from rfl, show (7 : Int32) = nI 7 from rfl, nI_leI (by omega) (by omega)]
      refine ⟨fun q => am_eq h ?_, fun q => ⟨fun q1 => am_eq h ?_, fun q1 => am_eq h ?_⟩⟩
      · rw [bi_0, decide_eq_false_iff_not, ev_in hn] at q
        unfold isl
        rw [decide_eq_false q]; rfl
      · rw [bi_n0, decide_eq_true_eq, ev_in hn] at q
        have := mbl_len8 hn ((ev_and hn set).mp q) 8 hn (by omega)
        rw [this] at q1
        unfold isl
        rw [decide_eq_true q, decide_eq_false (by omega)]; rfl
      · rw [bi_n0, decide_eq_true_eq, ev_in hn] at q
        have := mbl_len8 hn ((ev_and hn set).mp q) 8 hn (by omega)
        rw [this] at q1
        unfold isl
        rw [decide_eq_true q, decide_eq_true (by omega)]; rfl
    | succ r ih =>
      intro s hs
      have ih' := ih (s + 1) (by omega)
      refine sg7_isSet_4 ⟨fun q => absurd q ?_, fun _ => ?_⟩
      · rw [show (8 : Int32) = nI 8 from rfl, nI_leI (by omega) (by omega)]; omega
      · rw [bit_s set s (by omega), nI_1]
        rw [mbl_succ, List.length_append, ← nI_add] at ih'
        have e : nI (if bt set s = true then [s] else [] : List Nat).length = bi (bt set s) := by
          by_cases hb : bt set s = true
          · rw [if_pos hb, hb]; rfl
          · rw [if_neg hb, Bool.eq_false_iff.mpr hb]; rfl
        rw [e] at ih'
        exact ih'
  exact am_ci rfl rfl rfl (sg7_isSet_0 (loop 8 0 (by omega)))
