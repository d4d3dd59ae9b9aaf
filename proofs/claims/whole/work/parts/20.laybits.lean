/-- of the reference, nothing but its scratch cells has changed -/
def md (mem mem' : am_Mem) : Prop := (∀ a, a ≠ 30 → a < 38 → mem' a = mem a) ∧ ∀ j, (j ≤ 2 ∨ (10 ≤ j ∧ j ≤ 13)) → mem' 30 j = mem 30 j
theorem md_rf (mem : am_Mem) : md mem mem := ⟨fun _ _ _ => rfl, fun _ _ => rfl⟩
theorem md_tr {m1 m2 m3 : am_Mem} (h1 : md m1 m2) (h2 : md m2 m3) : md m1 m3 := ⟨fun a h h' => (h2.1 a h h').trans (h1.1 a h h'), fun j h => (h2.2 j h).trans (h1.2 j h)⟩
theorem md_set {m1 m2 : am_Mem} (h : md m1 m2) {a i : Nat} {v : Int32} (ha : 38 ≤ a) : md m1 (am_set m2 a i v) :=
  ⟨fun b h1 h2 => by rw [am_set_na _ _ (by omega)]; exact h.1 b h1 h2, fun j hj => by rw [am_set_na _ _ (by omega)]; exact h.2 j hj⟩
theorem md_fld {m1 m2 : am_Mem} (h : md m1 m2) {i : Nat} {v : Int32} (hi : ¬ (i ≤ 2 ∨ (10 ≤ i ∧ i ≤ 13))) : md m1 (am_set m2 30 i v) :=
  ⟨fun b h1 h2 => by rw [am_set_na _ _ h1]; exact h.1 b h1 h2, fun j hj => by
    have hne : j ≠ i := by omega
    rw [am_set_nj _ _ hne]; exact h.2 j hj⟩
theorem Mo.md {mem mem' : am_Mem} {σ : mp_S} {z : Int} {aw : Int32} (h : Mo mem σ z aw) (hm : md mem mem') : Mo mem' σ z aw := h.keep hm.2 (fun a h1 h2 => hm.1 a (by omega) (by omega))
def pfree (σ : mp_S) (z : Int) (aw : Nat → Bool) (k : Nat) : Bool := decide (k / 4 < s_n σ) && g_free σ z aw (k / 4) (k % 4)
def pcl (σ : mp_S) (z : Int) (a b : Nat) : Bool := decide (a / 4 < s_n σ ∧ b / 4 < s_n σ ∧ a / 4 ≠ b / 4) && g_clash σ z (a / 4) (a % 4) (b / 4) (b % 4)
theorem or_0 (x : Int32) : x ||| 0 = x := by
  apply b_ext; intro i hi; rw [b_or, b_0]; simp
theorem bs_step (f : Nat → Bool) (k : Nat) : bs f k ||| (if f k = true then (1 : Int32) <<< (nI k &&& 31) else 0) = bs f (k + 1) := by
  unfold bs
  cases h : f k
  · simp [or_0]; cases k <;> rfl
  · simp; cases k <;> rfl
theorem k4 (k : Nat) (hk : k < 2147483648) : nI k / 4 = nI (k / 4) := pk_div (d := 4) (by omega) (by omega) (by omega)
theorem k4m (k : Nat) (hk : k < 2147483648) : nI k - nI k / 4 * 4 = nI (k % 4) := pk_rem (d := 4) (by omega) (by omega) (by omega)
theorem k32 (k : Nat) (hk : k < 2147483648) : nI k / 32 = nI (k / 32) := pk_div (d := 32) (by omega) (by omega) (by omega)
theorem k32m (k : Nat) (hk : k < 2147483648) : nI k - nI k / 32 * 32 = nI (k % 32) := pk_rem (d := 32) (by omega) (by omega) (by omega)
theorem layBits_1 {D : Nat} {Q : Option Value → am_Mem → Prop} {mem0 : am_Mem} {σ : mp_S} {z : Int} {aw : Int32} (hσ : s_ok σ) (hz1 : 1 ≤ z) (hz2 : z ≤ 6) (hM : Mo mem0 σ z aw)
    (k : ∀ mem, md mem0 mem → mem 30 16 = bs (pfree σ z (bt aw)) 32 → (∀ j, j < 32 → mem 40 j = 0) → am_J m7_layBits (D + 3) 77 [.ref 30, .int 0, .null, .null, .null] [] mem Q) :
    ∀ (r i : Nat) (mem : am_Mem), i + r = 32 → md mem0 mem → mem 30 16 = bs (pfree σ z (bt aw)) i → (∀ j, j < i → mem 40 j = 0) → am_J m7_layBits (D + 3) 7 [.ref 30, .int (nI i), .null, .null, .null] [] mem Q := by
  have hn := hσ.1
  intro r
  induction r with
  | zero =>
    intro i mem hi hm hF hc
    have : i = 32 := by omega
    subst this
    exact sg7_layBits_7 ⟨fun _ => k mem hm hF hc, fun q => absurd (show (32 : Int32) ≤ nI 32 from Int32.le_refl _) q⟩
  | succ r ih =>
    intro i mem hi hm hF hc
    have e32 : vp_in (nI i) 32 := vp_in_nI (by omega) (by omega)
    have ci : (nI i).toNatClampNeg = i := nI_clamp (by omega)
    have hm' : md mem0 (am_set mem 40 i 0) := md_set hm (by omega)
    have hM' := hM.md hm'
    have ih' := ih (i + 1) (am_set (am_set mem 40 i 0) 30 16 (bs (pfree σ z (bt aw)) (i + 1))) (by omega) (md_fld hm' (by omega)) (am_set_eq _ _ _ _) (fun j hj => by
      rw [am_set_na _ _ (by decide)]
      by_cases hji : j = i
      · subst hji; rw [am_set_eq]
      · rw [am_set_nj _ _ hji]; exact hc j (by omega))
    have k48 : ∀ b : Bool, pfree σ z (bt aw) i = b → am_J m7_layBits (D + 3) 48 [.ref 30, .int (nI i), .null, .null, .null] [.int (bi b)] (am_set mem 40 i 0) Q := by
      intro b hb
      have h65 : ∀ x : Int32, x = (if b = true then (1 : Int32) <<< (nI i &&& 31) else 0) → am_J m7_layBits (D + 3) 65 [.ref 30, .int (nI i), .null, .null, .null] [.int x, .int ((am_set mem 40 i 0) 30 16), .ref 30] (am_set mem 40 i 0) Q := by
        intro x hx
        refine sg7_layBits_65 ?_
        rw [nI_1, am_set_na _ _ (show (30 : Nat) ≠ 40 by decide), hF, hx, ← hb, bs_step]
        exact ih'
      refine sg7_layBits_48 ⟨fun q => h65 _ (by rw [bi_0.mp q]; rfl), fun q => h65 _ (by rw [bi_n0.mp q]; rfl)⟩
    refine sg7_layBits_7 ⟨fun q => absurd q ?_, fun _ => ⟨e32, ?_⟩⟩
    · rw [show (32 : Int32) = nI 32 from rfl, nI_leI (by omega) (by omega)]; omega
    · rw [ci, k4m i (by omega), k4 i (by omega), hM'.1.2.2.1, nI_leI (by omega) (by omega)]
      refine ⟨fun q => sg7_layBits_47 (k48 false ?_), fun q => c7_isFree hσ hz1 hz2 hM' (by omega) (by omega) ⟨fun q1 => sg7_layBits_47 (k48 false ?_), fun q1 => k48 true ?_⟩⟩
      · unfold pfree; rw [decide_eq_false (by omega)]; rfl
      · unfold pfree; rw [bi_0.mp q1]; simp
      · unfold pfree; rw [bi_n0.mp q1, decide_eq_true (by omega)]; rfl
/-- how far row a has come at step k -/
def lbw (a k : Nat) : Nat := if a < k / 32 then 32 else if a = k / 32 then k % 32 else 0
theorem layBits_2 {D : Nat} {Q : Option Value → am_Mem → Prop} {mem0 : am_Mem} {σ : mp_S} {z : Int} {aw : Int32} {F : Int32} (hσ : s_ok σ) (hz1 : 1 ≤ z) (hz2 : z ≤ 6) (hM : Mo mem0 σ z aw)
    (k : ∀ mem, md mem0 mem → mem 30 16 = F → (∀ j, j < 32 → mem 40 j = bs (pcl σ z j) 32) → Q none mem) :
    ∀ (r i : Nat) (mem : am_Mem), i + r = 1024 → md mem0 mem → mem 30 16 = F → (∀ j, j < 32 → mem 40 j = bs (pcl σ z j) (lbw j i)) → am_J m7_layBits (D + 3) 77 [.ref 30, .int (nI i), .null, .null, .null] [] mem Q := by
  have hn := hσ.1
  intro r
  induction r with
  | zero =>
    intro i mem hi hm hF hc
    have : i = 1024 := by omega
    subst this
    refine sg7_layBits_77 ⟨fun _ => k mem hm hF (fun j hj => ?_), fun q => absurd (show (1024 : Int32) ≤ nI 1024 from Int32.le_refl _) q⟩
    rw [hc j hj]; unfold lbw; rw [if_pos (by omega)]
  | succ r ih =>
    intro i mem hi hm hF hc
    have hM' := hM.md hm
    have ha : i / 32 < 32 := by omega
    have e32 : vp_in (nI (i / 32)) 32 := vp_in_nI (by omega) (by omega)
    have ci : (nI (i / 32)).toNatClampNeg = i / 32 := nI_clamp (by omega)
    have hcur : mem 40 (i / 32) = bs (pcl σ z (i / 32)) (i % 32) := by
      rw [hc _ ha]; unfold lbw; rw [if_neg (by omega), if_pos rfl]
    have ih' := ih (i + 1) (am_set mem 40 (i / 32) (bs (pcl σ z (i / 32)) (i % 32 + 1))) (by omega) (md_set hm (by omega)) (by rw [am_set_na _ _ (by decide)]; exact hF) (fun j hj => by
      by_cases hji : j = i / 32
      · subst hji
        rw [am_set_eq]
        congr 1
        unfold lbw
        by_cases h31 : i % 32 = 31
        · rw [if_pos (by omega)]; omega
        · rw [if_neg (by omega), if_pos (by omega)]; omega
      · rw [am_set_nj _ _ hji, hc j hj]
        congr 1
        unfold lbw
        by_cases h1 : j < i / 32
        · rw [if_pos h1, if_pos (by omega)]
        · rw [if_neg h1, if_neg hji, if_neg (by omega)]
          split <;> omega)
    have k168 : ∀ x : Int32, x = (if pcl σ z (i / 32) (i % 32) = true then (1 : Int32) <<< (nI (i % 32) &&& 31) else 0) → am_J m7_layBits (D + 3) 168 [.ref 30, .int (nI i), .null, .null, .null] [.int x, .int (mem 40 (i / 32)), .int (nI (i / 32)), .ref 40] mem Q := by
      intro x hx
      refine sg7_layBits_168 ⟨e32, ?_⟩
      rw [nI_1, ci, hcur, hx, bs_step]
      exact ih'
    have k167 : pcl σ z (i / 32) (i % 32) = false → am_J m7_layBits (D + 3) 167 [.ref 30, .int (nI i), .null, .null, .null] [.int (mem 40 (i / 32)), .int (nI (i / 32)), .ref 40] mem Q := fun q => sg7_layBits_167 (k168 0 (by rw [q]; rfl))
    have k128 : ∀ b : Bool, b = decide (i / 32 / 4 < s_n σ ∧ i % 32 / 4 < s_n σ ∧ i / 32 / 4 ≠ i % 32 / 4) → am_J m7_layBits (D + 3) 128 [.ref 30, .int (nI i), .int (nI (i / 32)), .int (nI (i % 32)), .null] [.int (bi b)] mem Q := by
      intro b hb
      refine sg7_layBits_128 ⟨e32, ?_⟩
      rw [ci, k4m _ (by omega), k4m _ (by omega), k4 _ (by omega), k4 _ (by omega)]
      refine ⟨fun q => k167 ?_, fun q => ?_⟩
      · rw [bi_0] at q
        unfold pcl; rw [← hb, q]; rfl
      · rw [bi_n0] at q
        have hq := hb.symm.trans q
        rw [decide_eq_true_eq] at hq
        refine c7_clashes hσ hz1 hz2 hM' hq.1 (by omega) hq.2.1 (by omega) ⟨fun q1 => k167 ?_, fun q1 => k168 _ ?_⟩
        · unfold pcl; rw [bi_0.mp q1]; simp
        · have : pcl σ z (i / 32) (i % 32) = true := by unfold pcl; rw [bi_n0.mp q1, decide_eq_true hq]; rfl
          rw [this]; rfl
    refine sg7_layBits_77 ⟨fun q => absurd q ?_, fun _ => ?_⟩
    · rw [show (1024 : Int32) = nI 1024 from rfl, nI_leI (by omega) (by omega)]; omega
    · rw [k32m i (by omega), k32 i (by omega), k4 _ (by omega), k4 _ (by omega), hM'.1.2.2.1, nI_leI (by omega) (by omega), nI_leI (by omega) (by omega), nI_eq (by omega) (by omega)]
      have k127 : ∀ b : Bool, b = false → b = decide (i / 32 / 4 < s_n σ ∧ i % 32 / 4 < s_n σ ∧ i / 32 / 4 ≠ i % 32 / 4) → am_J m7_layBits (D + 3) 127 [.ref 30, .int (nI i), .int (nI (i / 32)), .int (nI (i % 32)), .null] [] mem Q := fun b hb h => sg7_layBits_127 (by have := k128 b h; rw [hb] at this; exact this)
      refine ⟨fun q => k127 false rfl (decide_eq_false (by omega)).symm, fun q => ⟨fun q1 => k127 false rfl (decide_eq_false (by omega)).symm, fun q1 => ⟨fun q2 => k127 false rfl (decide_eq_false (by omega)).symm, fun q2 => k128 true (decide_eq_true (by omega)).symm⟩⟩⟩
theorem c7_layBits {d : Nat} {mem : am_Mem} {P : am_Mem → Prop} {σ : mp_S} {z : Int} {aw : Int32} (hσ : s_ok σ) (hz1 : 1 ≤ z) (hz2 : z ≤ 6) (hM : Mo mem σ z aw)
    (h : ∀ mem', md mem mem' → mem' 30 16 = bs (pfree σ z (bt aw)) 32 → (∀ j, j < 32 → mem' 40 j = bs (pcl σ z j) 32) → P mem') : am_Cv m7_layBits (d + 3) [.ref 30] mem P := by
  have hm0 : md mem (am_set mem 30 16 0) := md_fld (md_rf mem) (by omega)
  refine am_cv rfl rfl rfl (sg7_layBits_0 (layBits_1 hσ hz1 hz2 hM (fun mem1 hm1 hF1 hc1 => layBits_2 (F := bs (pfree σ z (bt aw)) 32) hσ hz1 hz2 hM (fun mem2 hm2 hF2 hc2 => ⟨rfl, h mem2 hm2 hF2 hc2⟩) 1024 0 mem1 (by omega) hm1 hF1 (fun j hj => ?_)) 32 0 _ (by omega) hm0 (am_set_eq _ _ _ _) (fun j hj => absurd hj (by omega))))
  rw [hc1 j hj]; unfold lbw
  by_cases h0 : j = 0
  · subst h0; rfl
  · rw [if_neg (by omega), if_neg (by omega)]; rfl
