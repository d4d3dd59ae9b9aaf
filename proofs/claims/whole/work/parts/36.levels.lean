/-! LEVELS, purely: since which LEVEL (-9: never yet), and at which CORNER -/
abbrev Lv : Type := (Nat → Int) × (Nat → Int)
def lok (n : Nat) (L : Lv) : Prop := ∀ i, i < n → (L.1 i = -9 ∧ L.2 i = -9) ∨ ((0 ≤ L.1 i ∧ L.1 i ≤ 5) ∧ (0 ≤ L.2 i ∧ L.2 i ≤ 3))
def noc (σ : mp_S) (t : Int) (L : Lv) (s c o : Nat) : Bool := decide (L.1 o = -9) || !g_clash σ t s c o (cr L.2 o)
def may (σ : mp_S) (t : Int) (L : Lv) (s c : Nat) : Bool := g_free σ t aw0 s c && (List.range (s_n σ)).all (noc σ t L s c)
def shw (σ : mp_S) (z s : Nat) (L : Lv) : Lv := if L.1 s = -9 then (if nxt (may σ ((z : Int) + 1) L s) 4 0 < 4 then (hset L.1 s z, hset L.2 s (nxt (may σ ((z : Int) + 1) L s) 4 0)) else L) else L
theorem shw_ok {σ : mp_S} {z s : Nat} {L : Lv} (hz : z < 6) (h : lok (s_n σ) L) : lok (s_n σ) (shw σ z s L) := by
  unfold shw
  split
  · split
    · intro i hi
      simp only [hset]
      by_cases his : i = s
      · simp only [his, if_true]
        exact Or.inr ⟨⟨by omega, by omega⟩, by omega, by omega⟩
      · simp only [his, if_false]; exact h i hi
    · exact h
  · exact h
/-! the order: by WORTH, the greatest first; of like ones the least SITE -/
def Ro (wo : Nat → Int) (a b : Nat) : Prop := wo b < wo a ∨ (wo a = wo b ∧ a < b)
theorem sorted_eq {wo : Nat → Int} : ∀ {l1 l2 : List Nat}, l1.Pairwise (Ro wo) → l2.Pairwise (Ro wo) → (∀ a, a ∈ l1 ↔ a ∈ l2) → l1 = l2 := by
  intro l1
  induction l1 with
  | nil =>
    intro l2 _ _ h
    cases l2 with
    | nil => rfl
    | cons b l2 => exact absurd ((h b).mpr List.mem_cons_self) (by simp)
  | cons a l1 ih =>
    intro l2 h1 h2 h
    cases l2 with
    | nil => exact absurd ((h a).mp List.mem_cons_self) (by simp)
    | cons b l2 =>
      obtain ⟨p1, q1⟩ := List.pairwise_cons.mp h1
      obtain ⟨p2, q2⟩ := List.pairwise_cons.mp h2
      have hab : a = b := by
        rcases List.mem_cons.mp ((h a).mp List.mem_cons_self) with e | e
        · exact e
        · rcases List.mem_cons.mp ((h b).mpr List.mem_cons_self) with e2 | e2
          · exact e2.symm
          · have r1 := p2 a e
            have r2 := p1 b e2
            unfold Ro at r1 r2
            omega
      subst hab
      congr 1
      refine ih q1 q2 (fun x => ?_)
      have irr : ∀ x, Ro wo x x → False := fun x r => by unfold Ro at r; omega
      constructor
      · intro hx
        rcases List.mem_cons.mp ((h x).mp (List.mem_cons_of_mem _ hx)) with e | e
        · subst e; exact absurd (p1 x hx) (irr x)
        · exact e
      · intro hx
        rcases List.mem_cons.mp ((h x).mpr (List.mem_cons_of_mem _ hx)) with e | e
        · subst e; exact absurd (p2 x hx) (irr x)
        · exact e
def ordv (wo : Nat → Int) (n : Nat) : Nat → List Nat
  | 0 => []
  | v + 1 => (List.range n).filter (fun s => decide (wo s = (v : Int) + 1)) ++ ordv wo n v
theorem ordv_mem {wo : Nat → Int} {n : Nat} : ∀ {v a : Nat}, a ∈ ordv wo n v ↔ a < n ∧ 1 ≤ wo a ∧ wo a ≤ v := by
  intro v
  induction v with
  | zero => intro a; simp only [ordv, List.not_mem_nil, false_iff]; omega
  | succ v ih =>
    intro a
    simp only [ordv, List.mem_append, List.mem_filter, List.mem_range, decide_eq_true_eq, ih]
    omega
theorem ordv_sorted (wo : Nat → Int) (n : Nat) : ∀ v, (ordv wo n v).Pairwise (Ro wo) := by
  intro v
  induction v with
  | zero => exact List.Pairwise.nil
  | succ v ih =>
    simp only [ordv]
    refine List.pairwise_append.mpr ⟨?_, ih, fun a ha b hb => ?_⟩
    · rw [List.pairwise_filter]
      refine List.Pairwise.imp (R := (· < ·)) ?_ (List.pairwise_lt_range)
      intro a b hab h1 h2
      rw [decide_eq_true_eq] at h1 h2
      exact Or.inr ⟨by omega, hab⟩
    · have h1 := (List.mem_filter.mp ha).2
      rw [decide_eq_true_eq] at h1
      have h2 := ordv_mem.mp hb
      exact Or.inl (by omega)
def ordl (σ : mp_S) : List Nat := ordv (s_wo σ) (s_n σ) 99
def lvl (σ : mp_S) : Nat → Lv
  | 0 => (fun _ => -9, fun _ => -9)
  | z + 1 => (ordl σ).foldl (fun L s => shw σ z s L) (lvl σ z)
theorem fold_ok {σ : mp_S} {z : Nat} (hz : z < 6) : ∀ (l : List Nat) (L : Lv), lok (s_n σ) L → lok (s_n σ) (l.foldl (fun L s => shw σ z s L) L) := by
  intro l
  induction l with
  | nil => intro L h; exact h
  | cons a l ih => intro L h; exact ih _ (shw_ok hz h)
theorem lvl_ok (σ : mp_S) : ∀ z, z ≤ 6 → lok (s_n σ) (lvl σ z) := by
  intro z
  induction z with
  | zero => intro _ i _; exact Or.inl ⟨rfl, rfl⟩
  | succ z ih => intro h; exact fold_ok (by omega) _ _ (ih (by omega))
/-! the class's sort -/
def Oc (mem : am_Mem) (l : List Nat) : Prop := ∀ i, i < l.length → mem 25 i = nI (l.getD i 0)
theorem getD_app (l1 l2 : List Nat) (i : Nat) : (l1 ++ l2).getD i 0 = if i < l1.length then l1.getD i 0 else l2.getD (i - l1.length) 0 := by
  simp only [List.getD_eq_getElem?_getD, List.getElem?_append]
  split <;> rfl
theorem getD_take (l : List Nat) {t i : Nat} (h : i < t) : (l.take t).getD i 0 = l.getD i 0 := by
  simp only [List.getD_eq_getElem?_getD, List.getElem?_take, h, if_true]
theorem getD_drop (l : List Nat) (t i : Nat) : (l.drop t).getD i 0 = l.getD (t + i) 0 := by
  simp only [List.getD_eq_getElem?_getD, List.getElem?_drop]
theorem getD_mem {l : List Nat} {i : Nat} (h : i < l.length) : l.getD i 0 ∈ l := by
  rw [List.getD_eq_getElem?_getD, List.getElem?_eq_getElem h]; exact List.getElem_mem h
theorem mem_getD {l : List Nat} {a : Nat} (h : a ∈ l) : ∃ i, i < l.length ∧ l.getD i 0 = a := by
  obtain ⟨i, hi, e⟩ := List.getElem_of_mem h
  exact ⟨i, hi, by rw [List.getD_eq_getElem?_getD, List.getElem?_eq_getElem hi]; exact e⟩
theorem pw_getD {R : Nat → Nat → Prop} {l : List Nat} (h : l.Pairwise R) {i j : Nat} (hij : i < j) (hj : j < l.length) : R (l.getD i 0) (l.getD j 0) := by
  have := List.pairwise_iff_getElem.mp h i j (by omega) hj hij
  rw [List.getD_eq_getElem?_getD, List.getD_eq_getElem?_getD, List.getElem?_eq_getElem hj, List.getElem?_eq_getElem (show i < l.length by omega)]
  exact this
theorem sort_in {D : Nat} {Q : Option Value → am_Mem → Prop} {m0 : am_Mem} {n s : Nat} {wo : Nat → Int} {l : List Nat} (hn : n ≤ 8) (hs : s < n) (hW : ∀ i, i < n → m0 6 i = iz (wo i)) (hwo : ∀ i, i < n → 1 ≤ wo i ∧ wo i ≤ 99) (hl : l.length = s) (hp : l.Pairwise (Ro wo)) (hm : ∀ a, a ∈ l ↔ a < s)
    (k : ∀ (mem : am_Mem) (l' : List Nat), sm 25 26 m0 mem → l'.length = s + 1 → l'.Pairwise (Ro wo) → (∀ a, a ∈ l' ↔ a < s + 1) → Oc mem l' → am_J m4_sortByWorth D 2 [.ref 22, .int (nI (s + 1)), .null] [] mem Q) :
    ∀ (t : Nat) (mem : am_Mem), t ≤ s → sm 25 26 m0 mem → (∀ i, i < t → mem 25 i = nI (l.getD i 0)) → (∀ i, t ≤ i → i < s → mem 25 (i + 1) = nI (l.getD i 0) ∧ wo (l.getD i 0) < wo s) → am_J m4_sortByWorth D 15 [.ref 22, .int (nI s), .int (nI t)] [] mem Q := by
  -- SITE s comes to place t
  have fin : ∀ (t : Nat) (mem : am_Mem), t ≤ s → sm 25 26 m0 mem → (∀ i, i < t → mem 25 i = nI (l.getD i 0)) → (∀ i, t ≤ i → i < s → mem 25 (i + 1) = nI (l.getD i 0) ∧ wo (l.getD i 0) < wo s) → (∀ i, i < t → wo s ≤ wo (l.getD i 0)) → am_J m4_sortByWorth D 67 [.ref 22, .int (nI s), .int (nI t)] [] mem Q := by
    intro t mem ht hsm h1 h2 h3
    refine sg4_sortByWorth_67 ⟨vp_in_nI (by omega) (by omega), ?_⟩
    rw [nI_1, nI_clamp (by omega)]
    have hlt : (l.take t).length = t := by rw [List.length_take]; omega
    refine k _ (l.take t ++ s :: l.drop t) (sm_set hsm (by omega) (by omega)) (by simp; omega) ?_ (fun a => ?_) (fun i hi => ?_)
    · refine List.pairwise_append.mpr ⟨hp.sublist (List.take_sublist t l), List.pairwise_cons.mpr ⟨fun b hb => ?_, hp.sublist (List.drop_sublist t l)⟩, fun a ha b hb => ?_⟩
      · obtain ⟨i, hi, e⟩ := mem_getD hb
        rw [List.length_drop] at hi
        rw [getD_drop] at e
        have := (h2 (t + i) (by omega) (by omega)).2
        rw [e] at this
        exact Or.inl this
      · obtain ⟨i, hi, e⟩ := mem_getD ha
        rw [hlt] at hi
        rw [getD_take l hi] at e
        have g3 := h3 i hi
        rw [e] at g3
        rcases List.mem_cons.mp hb with rfl | hb
        · have ha' : a < b := (hm a).mp (List.mem_of_mem_take ha)
          unfold Ro
          omega
        · obtain ⟨j, hj, e2⟩ := mem_getD hb
          rw [List.length_drop] at hj
          rw [getD_drop] at e2
          have := (h2 (t + j) (by omega) (by omega)).2
          rw [e2] at this
          exact Or.inl (by omega)
    · have e : a ∈ l.take t ++ s :: l.drop t ↔ a = s ∨ a ∈ l := by
        rw [List.mem_append, List.mem_cons]
        have : a ∈ l ↔ a ∈ l.take t ∨ a ∈ l.drop t := by rw [← List.mem_append, List.take_append_drop]
        rw [this]
        constructor
        · rintro (h | h | h)
          · exact Or.inr (Or.inl h)
          · exact Or.inl h
          · exact Or.inr (Or.inr h)
        · rintro (h | h | h)
          · exact Or.inr (Or.inl h)
          · exact Or.inl h
          · exact Or.inr (Or.inr h)
      rw [e, hm]; omega
    · rw [getD_app, hlt]
      have hi' : i < s + 1 := by simp at hi; omega
      by_cases hit : i = t
      · subst hit
        rw [am_set_eq, if_neg (by omega), Nat.sub_self]; rfl
      · rw [am_set_nj _ _ hit]
        by_cases hlt2 : i < t
        · rw [if_pos hlt2, getD_take l hlt2]; exact h1 i hlt2
        · rw [if_neg hlt2]
          obtain ⟨j, rfl⟩ : ∃ j, i = j + 1 := ⟨i - 1, by omega⟩
          have e3 : (s :: l.drop t).getD (j + 1 - t) 0 = l.getD j 0 := by
            rw [show j + 1 - t = (j - t) + 1 by omega]
            show (l.drop t).getD (j - t) 0 = _
            rw [getD_drop]; congr 1; omega
          rw [e3]
          exact (h2 j (by omega) (by omega)).1
  intro t
  induction t with
  | zero =>
    intro mem ht hsm h1 h2
    refine sg4_sortByWorth_15 ⟨fun _ => fin 0 mem ht hsm h1 h2 (fun i hi => absurd hi (by omega)), fun q => absurd (show nI 0 ≤ (0 : Int32) from Int32.le_refl _) q⟩
  | succ t ih =>
    intro mem ht hsm h1 h2
    have hlm : l.getD t 0 < s := (hm _).mp (getD_mem (by omega))
    have hW' : ∀ i, i < n → mem 6 i = iz (wo i) := fun i hi => by rw [hsm 6 (by omega)]; exact hW i hi
    have e1 : nI (t + 1) - (1 : Int32) = nI t := nI_pred t
    refine sg4_sortByWorth_15 ⟨fun q => absurd q (nI_nle (by omega) (by omega)), fun _ => ?_⟩
    rw [e1, nI_clamp (by omega), nI_clamp (by omega), nI_clamp (by omega), h1 t (by omega), nI_clamp (by omega), hW' s hs, hW' _ (by omega)]
    have g1 := hwo s hs
    have g2 := hwo (l.getD t 0) (by omega)
    rw [iz_le (by omega) (by omega) (by omega) (by omega)]
    refine ⟨vp_in_nI (by omega) (by omega), vp_in_nI (by omega) (by omega), vp_in_nI (by omega) (by omega), fun q => fin (t + 1) mem ht hsm h1 h2 (fun i hi => ?_), fun q => ⟨vp_in_nI (by omega) (by omega), vp_in_nI (by omega) (by omega), ?_⟩⟩
    · by_cases hit : i = t
      · subst hit; exact q
      · have := pw_getD hp (i := i) (j := t) (by omega) (by omega)
        unfold Ro at this
        omega
    · rw [pk_m1]
      refine ih _ (by omega) (sm_set hsm (by omega) (by omega)) (fun i hi => ?_) (fun i hi1 hi2 => ?_)
      · rw [am_set_nj _ _ (by omega)]; exact h1 i (by omega)
      · by_cases hit : i = t
        · subst hit; rw [am_set_eq]; exact ⟨rfl, by omega⟩
        · rw [am_set_nj _ _ (by omega)]; exact h2 i (by omega) hi2
theorem c4_sortByWorth {d : Nat} {mem : am_Mem} {P : am_Mem → Prop} {σ : mp_S} (hσ : s_ok σ) (hC : Ch mem σ) (h : ∀ mem', sm 25 26 mem mem' → (ordl σ).length = s_n σ → Oc mem' (ordl σ) → P mem') : am_Cv m4_sortByWorth d [.ref 22] mem P := by
  have hn := hσ.1
  have hwo : ∀ i, i < s_n σ → 1 ≤ s_wo σ i ∧ s_wo σ i ≤ 99 := fun i hi => (hσ.2.2.2.2.2 i hi).2.2.2.2.1
  have loop : ∀ (r s : Nat) (m : am_Mem) (l : List Nat), s + r = s_n σ → sm 25 26 mem m → l.length = s → l.Pairwise (Ro (s_wo σ)) → (∀ a, a ∈ l ↔ a < s) → Oc m l → am_J m4_sortByWorth d 2 [.ref 22, .int (nI s), .null] [] m (fun r mem' => r = none ∧ P mem') := by
    intro r
    induction r with
    | zero =>
      intro s m l hs hsm hl hp hm ho
      have : s = s_n σ := by omega
      subst this
      have e : l = ordl σ := sorted_eq hp (ordv_sorted _ _ _) (fun a => by
        rw [hm, show ordl σ = ordv (s_wo σ) (s_n σ) 99 from rfl, ordv_mem]
        constructor
        · intro ha; have := hwo a ha; exact ⟨ha, this.1, by omega⟩
        · intro ha; exact ha.1)
      subst e
      refine sg4_sortByWorth_2 ⟨fun _ => ⟨rfl, h m hsm hl ho⟩, fun q => absurd ?_ q⟩
      rw [hsm 1 (by omega), hC.2.2.2.2.1]; exact Int32.le_refl _
    | succ r ih =>
      intro s m l hs hsm hl hp hm ho
      refine sg4_sortByWorth_2 ⟨fun q => absurd q ?_, fun _ => ?_⟩
      · rw [hsm 1 (by omega), hC.2.2.2.2.1, nI_leI (by omega) (by omega)]; omega
      · exact sort_in (m0 := mem) (wo := s_wo σ) hn (show s < s_n σ by omega) (fun i hi => (hC.2.2.2.2.2 i hi).2.2.2.2.1) hwo hl hp hm (fun m' l' g1 g2 g3 g4 g5 => ih (s + 1) m' l' (by omega) g1 g2 g3 g4 g5) s m (Nat.le_refl _) hsm (fun i hi => ho i (by omega)) (fun i h1 h2 => absurd h2 (by omega))
  exact am_cv rfl rfl rfl (sg4_sortByWorth_0 (loop (s_n σ) 0 mem [] (by omega) (sm_rf _ _ _) rfl List.Pairwise.nil (fun a => by simp) (fun i hi => absurd hi (by simp))))
