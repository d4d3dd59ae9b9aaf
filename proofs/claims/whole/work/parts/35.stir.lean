/-- another HAND -/
def s_sh (σ : mp_S) (h : Nat → Int) : mp_S := (σ.1, σ.2.1, σ.2.2.1, h)
theorem s_ok_sh {σ : mp_S} (h : s_ok σ) {hd : Nat → Int} (ho : hok (s_n σ) hd) : s_ok (s_sh σ hd) :=
  ⟨h.1, h.2.1, h.2.2.1, h.2.2.2.1, h.2.2.2.2.1, fun i hi => by
    obtain ⟨a, b, c, e, f, -⟩ := h.2.2.2.2.2 i hi
    exact ⟨a, b, c, e, f, ho i hi⟩⟩
theorem flt_sh (σ : mp_S) (h hd : Nat → Int) (n : Nat) : flt (s_sh σ h) hd n = flt σ hd n := rfl
theorem fwt_sh (σ : mp_S) (h hd : Nat → Int) (s n : Nat) : fwt (s_sh σ h) hd s n = fwt σ hd s n := rfl
theorem stir_sh (σ : mp_S) (h hd : Nat → Int) (n : Nat) : stir (s_sh σ h) n hd = stir σ n hd := rfl
/-- the reference's cells hold THE MAP, but for THE HAND -/
def Mh (mem : am_Mem) (σ : mp_S) : Prop := (mem 30 0 = iz (s_W σ) ∧ mem 30 1 = iz (s_H σ) ∧ mem 30 2 = nI (s_n σ) ∧ mem 30 10 = iz (s_z σ) ∧ mem 30 11 = iz (s_g σ) ∧ mem 30 12 = iz 1 ∧ mem 30 13 = 0) ∧
  ∀ i, i < s_n σ → mem 31 i = iz (s_x σ i) ∧ mem 32 i = iz (s_y σ i) ∧ mem 33 i = iz (s_wd σ i) ∧ mem 34 i = iz (s_ht σ i) ∧ mem 35 i = iz (s_wo σ i) ∧ ∀ c, c < 4 → bt (mem 36 i) c = s_al σ i c
theorem Mo.mh {mem : am_Mem} {σ : mp_S} (h : Mo mem σ 1 0) : Mh mem σ := ⟨h.1, fun i hi => by
  obtain ⟨a, b, c, e, f, -, g⟩ := h.2 i hi
  exact ⟨a, b, c, e, f, g⟩⟩
theorem Mh.mo {mem : am_Mem} {σ : mp_S} (h : Mh mem σ) {hd : Nat → Int} (hh : HdM mem (s_n σ) hd) : Mo mem (s_sh σ hd) 1 0 := ⟨h.1, fun i hi => by
  obtain ⟨a, b, c, e, f, g⟩ := h.2 i hi
  exact ⟨a, b, c, e, f, hh i hi, g⟩⟩
theorem Mh.keep {mem mem' : am_Mem} {σ : mp_S} (h : Mh mem σ) (hk : sm 37 38 mem mem') : Mh mem' σ := by
  unfold Mh at *
  rw [hk 30 (by omega), hk 31 (by omega), hk 32 (by omega), hk 33 (by omega), hk 34 (by omega), hk 35 (by omega), hk 36 (by omega)]
  exact h
theorem c7_faultsNow {d : Nat} {mem : am_Mem} {P : Int32 → am_Mem → Prop} {σ : mp_S} {hd : Nat → Int} (hσ : s_ok σ) (hM : Mh mem σ) (hh : HdM mem (s_n σ) hd) (ho : hok (s_n σ) hd) (h : P (nI (flt σ hd (s_n σ))) mem) : am_Ci m7_faultsNow (d + 4) [.ref 30] mem P := by
  have hn := hσ.1
  have hM' := hM.mo hh
  have hσ' := s_ok_sh hσ ho
  have hfl := flt_le σ hd hn
  have loop : ∀ (r i : Nat), i + r = s_n σ → am_J m7_faultsNow (d + 4) 4 [.ref 30, .int (nI (sumN (fun s => fwt σ hd s (s_n σ) + own σ hd s) i)), .int (nI i), .null] [] mem (fun r mem' => ∃ x, r = some (.int x) ∧ P x mem') := by
    intro r
    induction r with
    | zero =>
      intro i hi
      have : i = s_n σ := by omega
      subst this
      refine sg7_faultsNow_4 ⟨fun _ => am_eq h ?_, fun q => absurd ?_ q⟩
      · rw [twice, show (2 : Int32) = nI 2 from rfl, pk_div (by omega) (by omega) (by omega)]
        congr 1; omega
      · rw [hM.1.2.2.1]; exact Int32.le_refl _
    | succ r ih =>
      intro i hi
      have e8 : vp_in (nI i) 8 := vp_in_nI (by omega) (by omega)
      have k42 : ∀ x : Int32, x = nI (own σ hd i) → am_J m7_faultsNow (d + 4) 42 [.ref 30, .int (nI (sumN (fun s => fwt σ hd s (s_n σ) + own σ hd s) i)), .int (nI i), .null] [.int x] mem (fun r mem' => ∃ x, r = some (.int x) ∧ P x mem') := by
        intro x hx
        refine sg7_faultsNow_42 (c7_faultsWith (d := d) (σ := s_sh σ hd) hσ' hM' rfl (show i < s_n σ by omega) ?_)
        rw [nI_1, hx, nI_add, nI_add]
        exact ih (i + 1) (by omega)
      refine sg7_faultsNow_4 ⟨fun q => absurd q ?_, fun _ => ⟨e8, ?_⟩⟩
      · rw [hM.1.2.2.1, nI_leI (by omega) (by omega)]; omega
      · rw [nI_clamp (by omega), hh i (by omega), iz_9 (ho i (by omega))]
        refine ⟨fun q => sg7_faultsNow_37 (k42 0 ?_), fun q => ⟨e8, ?_⟩⟩
        · unfold own; rw [if_pos q]; rfl
        · obtain ⟨c1, c2⟩ := cr_iz (ho i (by omega)) q
          rw [c1]
          refine c7_isFree (d := d + 1) (σ := s_sh σ hd) hσ' (by omega) (by omega) hM' (show i < s_n σ by omega) c2 ?_
          rw [g_free_b0]
          refine ⟨fun q1 => k42 1 ?_, fun q1 => sg7_faultsNow_37 (k42 0 ?_)⟩
          · have : g_free σ 1 aw0 i (cr hd i) = false := bi_0.mp q1
            unfold own; rw [if_neg q, if_neg (by rw [this]; decide)]; rfl
          · have : g_free σ 1 aw0 i (cr hd i) = true := bi_n0.mp q1
            unfold own; rw [if_neg q, if_pos this]; rfl
  exact am_ci rfl rfl rfl (sg7_faultsNow_0 (loop (s_n σ) 0 (by omega)))
/-- what was found, as the reference has it -/
def sv (n : Nat) (p : Nat × Int) : Prop := p.1 ≤ 36 ∧ (p.2 = -9 ∨ ∃ s c : Nat, s < n ∧ c < 4 ∧ p.2 = 10 * s + c)
theorem stir_29 {D : Nat} {Q : Option Value → am_Mem → Prop} {m0 : am_Mem} {σ : mp_S} {hd : Nat → Int} {s : Nat} (hσ : s_ok σ) (hM : Mh m0 σ) (ho : hok (s_n σ) hd) (hs : s < s_n σ) (h9 : hd s ≠ -9) :
    ∀ (t c : Nat) (p : Nat × Int) (mem : am_Mem), c + t = 4 → sv (s_n σ) p → sm 37 38 m0 mem → (∀ i, i < s_n σ → i ≠ s → mem 37 i = iz (hd i)) →
      (∀ (mem : am_Mem), sv (s_n σ) (tlB (stc σ (s_n σ) hd s) t c p) → sm 37 38 m0 mem → (∀ i, i < s_n σ → i ≠ s → mem 37 i = iz (hd i)) → am_J m7_stirOnce (D + 5) 93 [.ref 30, .int (nI (tlB (stc σ (s_n σ) hd s) t c p).1), .int (iz (tlB (stc σ (s_n σ) hd s) t c p).2), .int (nI s), .int (iz (hd s)), .null, .null] [] mem Q) →
      am_J m7_stirOnce (D + 5) 29 [.ref 30, .int (nI p.1), .int (iz p.2), .int (nI s), .int (iz (hd s)), .int (nI c), .null] [] mem Q := by
  have hn := hσ.1
  have e8 : vp_in (nI s) 8 := vp_in_nI (by omega) (by omega)
  have cs : (nI s).toNatClampNeg = s := nI_clamp (by omega)
  intro t
  induction t with
  | zero =>
    intro c p mem hc hp hsm hh k
    have : c = 4 := by omega
    subst this
    exact sg7_stirOnce_29 ⟨fun _ => k mem hp hsm hh, fun q => absurd (show (4 : Int32) ≤ nI 4 from Int32.le_refl _) q⟩
  | succ t ih =>
    intro c p mem hc hp hsm hh k
    have hp1 := hp.1
    refine sg7_stirOnce_29 ⟨fun q => absurd q ?_, fun _ => ⟨fun q => absurd ((iz_9 (ho s hs)).mp q) h9, fun _ => ⟨e8, ?_⟩⟩⟩
    · rw [show (4 : Int32) = nI 4 from rfl, nI_leI (by omega) (by omega)]; omega
    · rw [cs]
      generalize hm1 : am_set mem 37 s (nI c) = m1
      have hs1 : sm 37 38 m0 m1 := hm1 ▸ sm_set hsm (by omega) (by omega)
      have hM1 : Mh m1 σ := hM.keep hs1
      have hh1 : ∀ i, i < s_n σ → i ≠ s → m1 37 i = iz (hd i) := fun i hi his => by rw [← hm1, am_set_nj _ _ his]; exact hh i hi his
      have hH : HdM m1 (s_n σ) (hset hd s c) := fun i hi => by
        by_cases his : i = s
        · subst his; rw [← hm1, am_set_eq]; simp [hset, iz_nI]
        · rw [hh1 i hi his]; simp [hset, his]
      have hfl := flt_le σ (hset hd s c) hn
      refine c7_faultsNow (d := D) hσ hM1 hH (hset_ok ho (by omega)) ?_
      have q0 : nI p.1 ≤ nI (flt σ (hset hd s c) (s_n σ)) ↔ p.1 ≤ flt σ (hset hd s c) (s_n σ) := nI_leI (by omega) (by omega)
      rw [q0]
      refine ⟨fun q => sg7_stirOnce_73 ⟨fun _ => sg7_stirOnce_86 ?_, fun q1 => absurd (q0.mpr q) q1⟩, fun q => sg7_stirOnce_73 ⟨fun q1 => absurd (q0.mp q1) q, fun _ => sg7_stirOnce_86 ?_⟩⟩
      · rw [nI_1]
        have e : stc σ (s_n σ) hd s c p = p := by unfold stc; rw [if_neg (by omega)]
        refine ih (c + 1) p m1 (by omega) hp hs1 hh1 (fun m => ?_)
        have := k m
        simp only [tlB, e] at this
        exact this
      · rw [nI_1]
        have e : stc σ (s_n σ) hd s c p = (flt σ (hset hd s c) (s_n σ), 10 * (s : Int) + c) := by unfold stc; rw [if_pos (by omega)]
        have e10 : (10 : Int32) * nI s + nI c = iz (10 * (s : Int) + c) := by
          rw [show (10 : Int32) = nI 10 from rfl, pk_mul, nI_add, iz_nI]
          congr 1
        rw [e10]
        refine ih (c + 1) (flt σ (hset hd s c) (s_n σ), 10 * (s : Int) + c) m1 (by omega) ⟨hfl, Or.inr ⟨s, c, hs, by omega, rfl⟩⟩ hs1 hh1 (fun m => ?_)
        have := k m
        simp only [tlB, e] at this
        exact this
theorem c7_stirOnce {d : Nat} {mem : am_Mem} {P : Int32 → am_Mem → Prop} {σ : mp_S} {hd : Nat → Int} (hσ : s_ok σ) (hM : Mh mem σ) (hh : HdM mem (s_n σ) hd) (ho : hok (s_n σ) hd)
    (h : ∀ mem', sm 37 38 mem mem' → HdM mem' (s_n σ) (aft hd (stir σ (s_n σ) hd).2) → P (iz (stir σ (s_n σ) hd).2) mem') : am_Ci m7_stirOnce (d + 5) [.ref 30] mem P := by
  have hn := hσ.1
  have loop : ∀ (r s : Nat) (p : Nat × Int) (m : am_Mem), s + r = s_n σ → sv (s_n σ) p → sm 37 38 mem m → HdM m (s_n σ) hd → tlB (sts σ (s_n σ) hd) r s p = stir σ (s_n σ) hd → am_J m7_stirOnce (d + 5) 10 [.ref 30, .int (nI p.1), .int (iz p.2), .int (nI s), .null, .null, .null] [] m (fun r mem' => ∃ x, r = some (.int x) ∧ P x mem') := by
    intro r
    induction r with
    | zero =>
      intro s p m hs hp hsm hH he
      have : s = s_n σ := by omega
      subst this
      have he : p = stir σ (s_n σ) hd := he
      have hN : m 30 2 = nI (s_n σ) := by rw [hsm 30 (by omega)]; exact hM.1.2.2.1
      refine sg7_stirOnce_10 ⟨fun _ => ?_, fun q => absurd (by rw [hN]; exact Int32.le_refl _) q⟩
      rcases hp.2 with m1 | ⟨s, c, hs, hc, m1⟩
      · refine ⟨fun _ => am_eq (h m hsm ?_) (by rw [he]), fun q => absurd (by rw [m1]; rfl) q⟩
        rw [← he, m1, aft_n]; exact hH
      · have e1 : iz p.2 = nI (10 * s + c) := by rw [m1, iz_nI]; congr 1
        have hne : ¬ iz p.2 = -9 := by
          rw [m1, show (-9 : Int32) = iz (-9) from rfl, iz_eq (by omega) (by omega) (by omega) (by omega)]; omega
        have d1 : iz p.2 / 10 = nI s := by
          rw [e1, show (10 : Int32) = nI 10 from rfl, pk_div (by omega) (by omega) (by omega)]; congr 1; omega
        have d2 : iz p.2 - iz p.2 / 10 * 10 = nI c := by
          rw [e1, show (10 : Int32) = nI 10 from rfl, pk_rem (by omega) (by omega) (by omega)]; congr 1; omega
        rw [d2, d1]
        refine ⟨fun q => absurd q hne, fun _ => ⟨vp_in_nI (by omega) (by omega), ?_⟩⟩
        rw [nI_clamp (by omega)]
        refine am_eq (h _ (sm_set hsm (by omega) (by omega)) ?_) (by rw [he])
        rw [← he, m1, aft_s hd hc]
        intro i hi
        by_cases his : i = s
        · subst his; rw [am_set_eq]; simp [hset, iz_nI]
        · rw [am_set_nj _ _ his, hH i hi]; simp [hset, his]
    | succ r ih =>
      intro s p m hs hp hsm hH he
      have hN : m 30 2 = nI (s_n σ) := by rw [hsm 30 (by omega)]; exact hM.1.2.2.1
      have e8 : vp_in (nI s) 8 := vp_in_nI (by omega) (by omega)
      have cs : (nI s).toNatClampNeg = s := nI_clamp (by omega)
      have k93 : ∀ (p' : Nat × Int) (m' : am_Mem), p' = sts σ (s_n σ) hd s p → sv (s_n σ) p' → sm 37 38 mem m' → (∀ i, i < s_n σ → i ≠ s → m' 37 i = iz (hd i)) → am_J m7_stirOnce (d + 5) 93 [.ref 30, .int (nI p'.1), .int (iz p'.2), .int (nI s), .int (iz (hd s)), .null, .null] [] m' (fun r mem' => ∃ x, r = some (.int x) ∧ P x mem') := by
        intro p' m' e g1 g3 g4
        refine sg7_stirOnce_93 ⟨e8, ?_⟩
        rw [nI_1, cs]
        refine ih (s + 1) p' _ (by omega) g1 (sm_set g3 (by omega) (by omega)) (fun i hi => ?_) (by rw [e]; exact he)
        by_cases his : i = s
        · subst his; rw [am_set_eq]
        · rw [am_set_nj _ _ his]; exact g4 i hi his
      refine sg7_stirOnce_10 ⟨fun q => absurd q ?_, fun _ => ⟨e8, ?_⟩⟩
      · rw [hN, nI_leI (by omega) (by omega)]; omega
      · rw [cs, hH s (by omega)]
        by_cases h9 : hd s = -9
        · have e : sts σ (s_n σ) hd s p = p := by unfold sts; rw [if_pos h9]
          refine sg7_stirOnce_29 ⟨fun q => absurd q (by decide), fun _ => ⟨fun _ => k93 p m e.symm hp hsm (fun i hi _ => hH i hi), fun q => absurd (by rw [h9]; rfl) q⟩⟩
        · have e : sts σ (s_n σ) hd s p = tlB (stc σ (s_n σ) hd s) 4 0 p := by unfold sts; rw [if_neg h9]
          exact stir_29 hσ hM ho (by omega) h9 4 0 p m (by omega) hp hsm (fun i hi _ => hH i hi) (fun m' g1 g3 g4 => k93 _ m' e.symm g1 g3 g4)
  refine am_ci rfl rfl rfl (sg7_stirOnce_0 (c7_faultsNow (d := d) hσ hM hh ho ?_))
  exact loop (s_n σ) 0 (flt σ hd (s_n σ), -9) mem (by omega) ⟨flt_le σ hd hn, Or.inl rfl⟩ (sm_rf _ _ _) hh rfl
/-! TO SETTLE: how many STIRS, and THE HAND then; f: no fewer than FAULTS -/
def stl (σ : mp_S) (n : Nat) : Nat → (Nat → Int) → Nat × (Nat → Int)
  | 0, hd => (0, hd)
  | f + 1, hd => if (stir σ n hd).2 = -9 then (0, hd) else ((stl σ n f (aft hd (stir σ n hd).2)).1 + 1, (stl σ n f (aft hd (stir σ n hd).2)).2)
theorem stl_le (σ : mp_S) (n : Nat) : ∀ (f : Nat) (hd : Nat → Int), (stl σ n f hd).1 ≤ f := by
  intro f
  induction f with
  | zero => intro hd; exact Nat.le_refl _
  | succ f ih =>
    intro hd
    simp only [stl]
    split
    · exact Nat.zero_le _
    · have := ih (aft hd (stir σ n hd).2)
      show (stl σ n f _).1 + 1 ≤ f + 1
      omega
theorem stl_ok {σ : mp_S} {n : Nat} : ∀ (f : Nat) (hd : Nat → Int), hok n hd → hok n (stl σ n f hd).2 := by
  intro f
  induction f with
  | zero => intro hd h; exact h
  | succ f ih =>
    intro hd h
    simp only [stl]
    split
    · exact h
    · exact ih _ (aft_ok h)
theorem stir_less {σ : mp_S} {n : Nat} {hd : Nat → Int} (h : ¬ (stir σ n hd).2 = -9) : flt σ (aft hd (stir σ n hd).2) n < flt σ hd n := by
  rcases (stir_ok σ n hd).2 with ⟨h1, -⟩ | ⟨s, c, hs, hc, h1, h2, h3, -⟩
  · exact absurd h1 h
  · rw [h1, aft_s hd hc, ← h2]; exact h3
theorem stir_none {σ : mp_S} {n : Nat} {hd : Nat → Int} (h : flt σ hd n = 0) : (stir σ n hd).2 = -9 := by
  rcases (stir_ok σ n hd).2 with ⟨h1, -⟩ | ⟨s, c, hs, hc, h1, h2, h3, -⟩
  · exact h1
  · omega
theorem iz_n9 {σ : mp_S} {n : Nat} (hn : n ≤ 8) {hd : Nat → Int} : iz (stir σ n hd).2 = -9 ↔ (stir σ n hd).2 = -9 := by
  rw [show (-9 : Int32) = iz (-9) from rfl]
  rcases (stir_ok σ n hd).2 with ⟨h1, -⟩ | ⟨s, c, hs, hc, h1, -⟩
  · rw [h1]; simp
  · rw [iz_eq (by omega) (by omega) (by omega) (by omega)]
theorem c7_settle {d : Nat} {mem : am_Mem} {P : Int32 → am_Mem → Prop} {σ : mp_S} {hd : Nat → Int} (hσ : s_ok σ) (hM : Mh mem σ) (hh : HdM mem (s_n σ) hd) (ho : hok (s_n σ) hd)
    (h : ∀ mem', sm 37 38 mem mem' → HdM mem' (s_n σ) (stl σ (s_n σ) 36 hd).2 → P (nI (stl σ (s_n σ) 36 hd).1) mem') : am_Ci m7_settle (d + 6) [.ref 30] mem P := by
  have hn := hσ.1
  have loop : ∀ (f k : Nat) (hd : Nat → Int) (m : am_Mem), flt σ hd (s_n σ) ≤ f → sm 37 38 mem m → HdM m (s_n σ) hd → hok (s_n σ) hd → (∀ mem', sm 37 38 mem mem' → HdM mem' (s_n σ) (stl σ (s_n σ) f hd).2 → P (nI (k + (stl σ (s_n σ) f hd).1)) mem') → am_J m7_settle (d + 6) 2 [.ref 30, .int (nI k)] [] m (fun r mem' => ∃ x, r = some (.int x) ∧ P x mem') := by
    intro f
    induction f with
    | zero =>
      intro k hd m hf hsm hH ho h
      refine sg7_settle_2 (c7_stirOnce (d := d) hσ (hM.keep hsm) hH ho (fun m' g1 g2 => ?_))
      have e := stir_none (σ := σ) (n := s_n σ) (hd := hd) (by omega)
      rw [e, aft_n] at g2
      rw [iz_n9 hn]
      exact ⟨fun _ => am_eq (h m' (sm_tr hsm g1) g2) rfl, fun q => absurd e q⟩
    | succ f ih =>
      intro k hd m hf hsm hH ho h
      refine sg7_settle_2 (c7_stirOnce (d := d) hσ (hM.keep hsm) hH ho (fun m' g1 g2 => ?_))
      rw [iz_n9 hn]
      refine ⟨fun q => ?_, fun q => ?_⟩
      · rw [q, aft_n] at g2
        have e : stl σ (s_n σ) (f + 1) hd = (0, hd) := by simp only [stl]; rw [if_pos q]
        rw [e] at h
        exact am_eq (h m' (sm_tr hsm g1) g2) rfl
      · have e : stl σ (s_n σ) (f + 1) hd = ((stl σ (s_n σ) f (aft hd (stir σ (s_n σ) hd).2)).1 + 1, (stl σ (s_n σ) f (aft hd (stir σ (s_n σ) hd).2)).2) := by simp only [stl]; rw [if_neg q]
        rw [e] at h
        have hl := stir_less q
        rw [nI_1]
        refine ih (k + 1) _ m' (by omega) (sm_tr hsm g1) g2 (aft_ok ho) (fun mem' l1 l2 => ?_)
        have := h mem' l1 l2
        rw [show k + 1 + (stl σ (s_n σ) f (aft hd (stir σ (s_n σ) hd).2)).1 = k + ((stl σ (s_n σ) f (aft hd (stir σ (s_n σ) hd).2)).1 + 1) by omega]
        exact this
  refine am_ci rfl rfl rfl (sg7_settle_0 (loop 36 0 hd mem (flt_le σ hd hn) (sm_rf _ _ _) hh ho (fun m' g1 g2 => ?_)))
  rw [Nat.zero_add]; exact h m' g1 g2
