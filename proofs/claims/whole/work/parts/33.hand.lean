/-! FAULTS, purely; hd: THE HAND (-9: NONE) -/
def hok (n : Nat) (hd : Nat → Int) : Prop := ∀ i, i < n → hd i = -9 ∨ (0 ≤ hd i ∧ hd i ≤ 3)
def cr (hd : Nat → Int) (i : Nat) : Nat := (hd i).toNat
def own (σ : mp_S) (hd : Nat → Int) (i : Nat) : Nat := if hd i = -9 then 0 else if g_free σ 1 aw0 i (cr hd i) = true then 0 else 1
def shr (σ : mp_S) (hd : Nat → Int) (i j : Nat) : Nat := if hd i = -9 then 0 else if hd j = -9 then 0 else if g_clash σ 1 i (cr hd i) j (cr hd j) = true then 1 else 0
def flt (σ : mp_S) (hd : Nat → Int) (n : Nat) : Nat := sumN (fun i => own σ hd i + sumN (shr σ hd i) i) n
/-- FAULTS in which a SITE is, with SITES below k -/
def fwt (σ : mp_S) (hd : Nat → Int) (s k : Nat) : Nat := own σ hd s + sumN (fun o => if o = s then 0 else shr σ hd s o) k
theorem shr_sym (σ : mp_S) (hd : Nat → Int) (i j : Nat) : shr σ hd i j = shr σ hd j i := by
  unfold shr
  by_cases h1 : hd i = -9
  · simp [h1]
  · by_cases h2 : hd j = -9
    · simp [h2]
    · simp only [h1, h2, if_false]; rw [g_clash_sym]
theorem own_le (σ : mp_S) (hd : Nat → Int) (i : Nat) : own σ hd i ≤ 1 := by unfold own; split <;> (try split) <;> omega
theorem shr_le (σ : mp_S) (hd : Nat → Int) (i j : Nat) : shr σ hd i j ≤ 1 := by unfold shr; split <;> (try split) <;> (try split) <;> omega
theorem sumN_add (f g : Nat → Nat) : ∀ n, sumN (fun i => f i + g i) n = sumN f n + sumN g n := by
  intro n
  induction n with
  | zero => rfl
  | succ n ih => simp only [sumN]; omega
theorem flt_le (σ : mp_S) (hd : Nat → Int) {n : Nat} (hn : n ≤ 8) : flt σ hd n ≤ 36 := by
  have key : ∀ n, n ≤ 8 → 2 * flt σ hd n ≤ n * (n + 1) := by
    intro n
    induction n with
    | zero => intro _; simp [flt, sumN]
    | succ n ih =>
      intro h
      have h1 := ih (by omega)
      have h2 := own_le σ hd n
      have h3 : sumN (shr σ hd n) n ≤ n * 1 := sumN_le (fun i _ => shr_le σ hd n i)
      have e : flt σ hd (n + 1) = flt σ hd n + (own σ hd n + sumN (shr σ hd n) n) := rfl
      rw [e]
      have : (n + 1) * (n + 1 + 1) = n * (n + 1) + 2 * n + 2 := by simp only [Nat.add_mul, Nat.mul_add]; omega
      omega
  have h1 := key n hn
  have h2 : n * (n + 1) ≤ 8 * 9 := Nat.mul_le_mul hn (by omega)
  omega
theorem sum_sk (f : Nat → Nat) (s : Nat) : ∀ k, k ≤ s → sumN (fun o => if o = s then 0 else f o) k = sumN f k := fun k hk => sumN_congr (fun i hi => by rw [if_neg (by omega)])
/-- each pair is seen from both its SITES -/
theorem twice (σ : mp_S) (hd : Nat → Int) : ∀ n, sumN (fun s => fwt σ hd s n + own σ hd s) n = 2 * flt σ hd n := by
  have key : ∀ n, sumN (fun s => sumN (fun o => if o = s then 0 else shr σ hd s o) n) n = 2 * sumN (fun i => sumN (shr σ hd i) i) n := by
    intro n
    induction n with
    | zero => rfl
    | succ n ih =>
      have e1 : sumN (fun s => sumN (fun o => if o = s then 0 else shr σ hd s o) (n + 1)) (n + 1) = sumN (fun s => sumN (fun o => if o = s then 0 else shr σ hd s o) n + (if n = s then 0 else shr σ hd s n)) n + (sumN (fun o => if o = n then 0 else shr σ hd n o) n + 0) := by
        simp only [sumN, if_true]
      rw [e1, sumN_add, ih, sum_sk _ _ n (Nat.le_refl _)]
      have e2 : sumN (fun s => if n = s then 0 else shr σ hd s n) n = sumN (shr σ hd n) n := sumN_congr (fun i hi => by rw [if_neg (by omega), shr_sym])
      rw [e2]
      simp only [sumN]; omega
  intro n
  unfold fwt flt
  have e3 : sumN (fun s => own σ hd s + sumN (fun o => if o = s then 0 else shr σ hd s o) n + own σ hd s) n = sumN (fun s => (own σ hd s + own σ hd s) + sumN (fun o => if o = s then 0 else shr σ hd s o) n) n := sumN_congr (fun i _ => by omega)
  rw [e3, sumN_add, sumN_add, sumN_add, key]
  omega
theorem flt_congr {σ : mp_S} {hd hd' : Nat → Int} {n : Nat} (h : ∀ i, i < n → hd i = hd' i) : flt σ hd n = flt σ hd' n := by
  unfold flt
  apply sumN_congr
  intro i hi
  have e1 : own σ hd i = own σ hd' i := by unfold own cr; rw [h i hi]
  have e2 : sumN (shr σ hd i) i = sumN (shr σ hd' i) i := sumN_congr (fun j hj => by unfold shr cr; rw [h i hi, h j (by omega)])
  rw [e1, e2]
/-! a STIR, purely -/
def hset (hd : Nat → Int) (s : Nat) (v : Int) : Nat → Int := fun i => if i = s then v else hd i
def stc (σ : mp_S) (n : Nat) (hd : Nat → Int) (s c : Nat) (p : Nat × Int) : Nat × Int := if flt σ (hset hd s c) n < p.1 then (flt σ (hset hd s c) n, 10 * s + c) else p
def sts (σ : mp_S) (n : Nat) (hd : Nat → Int) (s : Nat) (p : Nat × Int) : Nat × Int := if hd s = -9 then p else tlB (stc σ n hd s) 4 0 p
def stir (σ : mp_S) (n : Nat) (hd : Nat → Int) : Nat × Int := tlB (sts σ n hd) n 0 (flt σ hd n, -9)
/-- what a STIR has found: nothing, or a SITE with a CORNER that goes to another, and FAULTS are fewer then -/
def sok (σ : mp_S) (n : Nat) (hd : Nat → Int) (p : Nat × Int) : Prop := p.1 ≤ flt σ hd n ∧ ((p.2 = -9 ∧ p.1 = flt σ hd n) ∨ ∃ s c : Nat, s < n ∧ c < 4 ∧ p.2 = 10 * s + c ∧ p.1 = flt σ (hset hd s c) n ∧ p.1 < flt σ hd n ∧ hd s ≠ -9)
theorem stc_ok {σ : mp_S} {n : Nat} {hd : Nat → Int} {s c : Nat} (hs : s < n) (hc : c < 4) (hd9 : hd s ≠ -9) {p : Nat × Int} (h : sok σ n hd p) : sok σ n hd (stc σ n hd s c p) := by
  unfold stc
  split
  · rename_i hlt
    have := h.1
    exact ⟨by show flt σ (hset hd s c) n ≤ _; omega, Or.inr ⟨s, c, hs, hc, rfl, rfl, by show flt σ (hset hd s c) n < _; omega, hd9⟩⟩
  · exact h
theorem tlB_ok {β : Type} {f : Nat → β → β} {I : β → Prop} : ∀ {t c : Nat} {b : β}, (∀ i b, c ≤ i → i < c + t → I b → I (f i b)) → I b → I (tlB f t c b) := by
  intro t
  induction t with
  | zero => intro c b _ h; exact h
  | succ t ih => intro c b h hb; exact ih (fun i b h1 h2 => h i b (by omega) (by omega)) (h c b (by omega) (by omega) hb)
theorem stir_ok (σ : mp_S) (n : Nat) (hd : Nat → Int) : sok σ n hd (stir σ n hd) := by
  unfold stir
  refine tlB_ok (I := sok σ n hd) (fun s p _ hs h => ?_) ⟨Nat.le_refl _, Or.inl ⟨rfl, rfl⟩⟩
  unfold sts
  split
  · exact h
  · rename_i h9
    exact tlB_ok (I := sok σ n hd) (fun c p _ hc h => stc_ok (by omega) (by omega) h9 h) h
theorem hset_ok {n : Nat} {hd : Nat → Int} (h : hok n hd) {s c : Nat} (hc : c < 4) : hok n (hset hd s c) := fun i hi => by
  unfold hset
  split
  · exact Or.inr ⟨by omega, by omega⟩
  · exact h i hi
/-! THE HAND of the class -/
def HdC (mem : am_Mem) (n : Nat) (hd : Nat → Int) : Prop := ∀ i, i < n → mem 21 i = iz (hd i)
def Hx (mem : am_Mem) (σ : mp_S) : Prop := Bx mem σ 1 (s_n σ) ∧ Cz mem σ
theorem Hx.keep {mem mem' : am_Mem} {σ : mp_S} (h : Hx mem σ) (hk : ∀ a, 1 ≤ a → a ≤ 14 → mem' a = mem a) : Hx mem' σ := ⟨h.1.keep (fun a h1 h2 => hk a (by omega) (by omega)), h.2.keep (fun a h1 h2 => hk a h1 (by omega))⟩
theorem iz_9 {a : Int} (h : a = -9 ∨ (0 ≤ a ∧ a ≤ 3)) : iz a = -9 ↔ a = -9 := by rw [show (-9 : Int32) = iz (-9) from rfl, iz_eq (by omega) (by omega) (by omega) (by omega)]
theorem cr_iz {hd : Nat → Int} {i : Nat} (h : hd i = -9 ∨ (0 ≤ hd i ∧ hd i ≤ 3)) (h9 : ¬ hd i = -9) : iz (hd i) = nI (cr hd i) ∧ cr hd i < 4 := by
  unfold cr
  rcases h with h | h
  · exact absurd h h9
  · refine ⟨?_, by omega⟩
    rw [iz_nI]; congr 1; omega
theorem c3_ownFault {d : Nat} {mem : am_Mem} {P : Int32 → am_Mem → Prop} {σ : mp_S} {hd : Nat → Int} {i : Nat} (hσ : s_ok σ) (hX : Hx mem σ) (hh : HdC mem (s_n σ) hd) (ho : hok (s_n σ) hd) (hi : i < s_n σ) (h : P (nI (own σ hd i)) mem) : am_Ci m3_ownFault (d + 2) [.ref 20, .int (nI i)] mem P := by
  have hn := hσ.1
  have e8 : vp_in (nI i) 8 := vp_in_nI (by omega) (by omega)
  have k36 : ∀ b : Bool, nI (own σ hd i) = bi b → am_J m3_ownFault (d + 2) 36 [.null, .null] [.int (bi b)] mem (fun r mem' => ∃ x, r = some (.int x) ∧ P x mem') := fun b hb => sg3_ownFault_36 (c6_toInt (am_eq h hb.symm))
  refine am_ci rfl rfl rfl (sg3_ownFault_0 ⟨e8, ?_⟩)
  rw [nI_clamp (by omega), hh i hi, iz_9 (ho i hi)]
  refine ⟨fun q => sg3_ownFault_35 (k36 false ?_), fun q => ⟨e8, c6_boxOf ?_⟩⟩
  · unfold own; rw [if_pos q]; rfl
  · obtain ⟨c1, c2⟩ := cr_iz (ho i hi) q
    rw [c1, box_nI]
    refine c0_isFree hσ (by omega) (by omega) hX.1 hX.2.2.1 hi c2 ((hX.2.2.2 i hi).2 _ c2) ⟨fun q1 => sg3_ownFault_35 (k36 false ?_), fun q1 => k36 true ?_⟩
    · unfold own; rw [if_neg q, if_pos (bi_n0.mp q1)]; rfl
    · unfold own; rw [if_neg q, if_neg (by rw [bi_0.mp q1]; decide)]; rfl
theorem c3_sharedFault {d : Nat} {mem : am_Mem} {P : Int32 → am_Mem → Prop} {σ : mp_S} {hd : Nat → Int} {i j : Nat} (hσ : s_ok σ) (hX : Hx mem σ) (hh : HdC mem (s_n σ) hd) (ho : hok (s_n σ) hd) (hi : i < s_n σ) (hj : j < s_n σ) (h : P (nI (shr σ hd i j)) mem) : am_Ci m3_sharedFault (d + 1) [.ref 20, .int (nI i), .int (nI j)] mem P := by
  have hn := hσ.1
  have e8 : vp_in (nI i) 8 := vp_in_nI (by omega) (by omega)
  have f8 : vp_in (nI j) 8 := vp_in_nI (by omega) (by omega)
  have k57 : ∀ b : Bool, nI (shr σ hd i j) = bi b → am_J m3_sharedFault (d + 1) 57 [.null, .null, .null] [.int (bi b)] mem (fun r mem' => ∃ x, r = some (.int x) ∧ P x mem') := fun b hb => sg3_sharedFault_57 (c6_toInt (am_eq h hb.symm))
  refine am_ci rfl rfl rfl (sg3_sharedFault_0 ⟨e8, ?_⟩)
  rw [nI_clamp (by omega), nI_clamp (by omega), hh i hi, hh j hj, iz_9 (ho i hi), iz_9 (ho j hj)]
  refine ⟨fun q => sg3_sharedFault_56 (k57 false ?_), fun q => ⟨f8, fun q1 => sg3_sharedFault_56 (k57 false ?_), fun q1 => ⟨e8, c6_boxOf ⟨f8, ?_⟩⟩⟩⟩
  · unfold shr; rw [if_pos q]; rfl
  · unfold shr; rw [if_neg q, if_pos q1]; rfl
  · obtain ⟨c1, c2⟩ := cr_iz (ho i hi) q
    obtain ⟨c3, c4⟩ := cr_iz (ho j hj) q1
    rw [hh j hj, c3]
    refine c6_boxOf ?_
    rw [c1, box_nI, box_nI]
    refine c0_doClash hσ (by omega) (by omega) hX.1 hi hj hi c2 hj c4 hX.2.1 ⟨fun q2 => sg3_sharedFault_56 (k57 false ?_), fun q2 => k57 true ?_⟩
    · unfold shr; rw [if_neg q, if_neg q1, if_neg (by rw [bi_0.mp q2]; decide)]; rfl
    · unfold shr; rw [if_neg q, if_neg q1, if_pos (bi_n0.mp q2)]; rfl
theorem countFaults_in {D : Nat} {Q : Option Value → am_Mem → Prop} {mem : am_Mem} {σ : mp_S} {hd : Nat → Int} {i p : Nat} (hσ : s_ok σ) (hX : Hx mem σ) (hh : HdC mem (s_n σ) hd) (ho : hok (s_n σ) hd) (hi : i < s_n σ)
    (k : am_J m3_countFaults (D + 3) 4 [.ref 20, .int (nI (p + sumN (shr σ hd i) i)), .int (nI (i + 1)), .null] [] mem Q) :
    ∀ (r j : Nat), j + r = i → am_J m3_countFaults (D + 3) 25 [.ref 20, .int (nI (p + sumN (shr σ hd i) j)), .int (nI i), .int (nI j)] [] mem Q := by
  have hn := hσ.1
  intro r
  induction r with
  | zero =>
    intro j hj
    have : j = i := by omega
    subst this
    refine sg3_countFaults_25 ⟨fun _ => ?_, fun q => absurd (Int32.le_refl _) q⟩
    rw [nI_1]; exact k
  | succ r ih =>
    intro j hj
    refine sg3_countFaults_25 ⟨fun q => absurd q ?_, fun _ => c3_sharedFault (d := D + 1) hσ hX hh ho hi (by omega) ?_⟩
    · rw [nI_leI (by omega) (by omega)]; omega
    · rw [nI_1, nI_add, show p + sumN (shr σ hd i) j + shr σ hd i j = p + sumN (shr σ hd i) (j + 1) by simp only [sumN]; omega]
      exact ih (j + 1) (by omega)
theorem c3_countFaults {d : Nat} {mem : am_Mem} {P : Int32 → am_Mem → Prop} {σ : mp_S} {hd : Nat → Int} (hσ : s_ok σ) (hX : Hx mem σ) (hh : HdC mem (s_n σ) hd) (ho : hok (s_n σ) hd) (h : P (nI (flt σ hd (s_n σ))) mem) : am_Ci m3_countFaults (d + 3) [.ref 20] mem P := by
  have hn := hσ.1
  have loop : ∀ (r i : Nat), i + r = s_n σ → am_J m3_countFaults (d + 3) 4 [.ref 20, .int (nI (flt σ hd i)), .int (nI i), .null] [] mem (fun r mem' => ∃ x, r = some (.int x) ∧ P x mem') := by
    intro r
    induction r with
    | zero =>
      intro i hi
      have : i = s_n σ := by omega
      subst this
      refine sg3_countFaults_4 ⟨fun _ => am_eq h rfl, fun q => absurd ?_ q⟩
      rw [hX.2.2.1]; exact Int32.le_refl _
    | succ r ih =>
      intro i hi
      refine sg3_countFaults_4 ⟨fun q => absurd q ?_, fun _ => c3_ownFault (d := d) hσ hX hh ho (by omega) ?_⟩
      · rw [hX.2.2.1, nI_leI (by omega) (by omega)]; omega
      · rw [nI_add]
        refine countFaults_in (p := flt σ hd i + own σ hd i) hσ hX hh ho (by omega) ?_ i 0 (by omega)
        have e : flt σ hd i + own σ hd i + sumN (shr σ hd i) i = flt σ hd (i + 1) := by
          show _ = flt σ hd i + (own σ hd i + sumN (shr σ hd i) i)
          omega
        rw [e]
        exact ih (i + 1) (by omega)
  exact am_ci rfl rfl rfl (sg3_countFaults_0 (loop (s_n σ) 0 (by omega)))
