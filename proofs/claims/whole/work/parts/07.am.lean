/-! THE MACHINE OVER A FIXED LAYOUT: once both objects are made, nothing is made any more and no reference is written; the state is the ints alone -/
abbrev am_Mem : Type := Nat → Nat → Int32
abbrev am_Sh : Type := (Bool × Nat) ⊕ (Nat × List (Option Nat))
/-- a method: its name, its bytes, how many locals, what it returns; and, of the law alone, its script -/
abbrev am_M : Type := MethodName × ByteArray × Nat × Option FieldType × Option (Nat × (Nat → Int32))
def am_lay : List am_Sh := [.inr (6, [some 1, some 8, some 15, some 20, some 22, some 26]), .inr (1, [none, none, none, none, none, some 2, some 3, some 4, some 5, some 6, some 7]), .inl (false, 8), .inl (false, 8), .inl (false, 8), .inl (false, 8), .inl (false, 8), .inl (true, 32), .inr (0, [some 1, none, none, some 9, some 10, some 11, some 12, some 13, some 14]), .inl (false, 8), .inl (false, 8), .inl (false, 32), .inl (false, 32), .inl (false, 32), .inl (false, 32), .inr (5, [some 1, some 8, some 16, some 17, none, some 18, some 19, none]), .inl (false, 32), .inl (false, 32), .inl (false, 8), .inl (false, 8), .inr (3, [some 1, some 8, some 21]), .inl (false, 8), .inr (4, [some 1, some 8, some 23, some 24, some 25]), .inl (false, 8), .inl (false, 8), .inl (false, 8), .inr (2, [some 1, none, some 27, some 28, some 29, none, none]), .inl (false, 6), .inl (false, 6), .inl (false, 6), .inr (7, [none, none, none, some 31, some 32, some 33, some 34, some 35, some 36, some 37, none, none, none, none, some 38, some 39, none, some 40, some 41, none, none, some 42, some 43, some 44, some 45, some 46, some 47, none, none, none]), .inl (false, 8), .inl (false, 8), .inl (false, 8), .inl (false, 8), .inl (false, 8), .inl (false, 8), .inl (false, 8), .inl (false, 8), .inl (false, 8), .inl (false, 32), .inl (false, 9), .inl (false, 32), .inl (false, 8), .inl (false, 8), .inl (false, 6), .inl (false, 6), .inl (false, 6)]
def am_sh (a : Nat) : am_Sh := am_lay.getD a (.inl (false, 0))
def am_rel (ad : Nat → Nat) : Value → Value
  | .ref a => .ref (ad a)
  | v => v
def am_fv (ad : Nat → Nat) (f : Nat → Int32) (k : Nat) (o : Option Nat) : Value := match o with
  | none => .int (f k)
  | some r => .ref (ad r)
def am_cell (ad : Nat → Nat) (ca : Nat → ClassId) (a : Nat) (f : Nat → Int32) : va_E := match am_sh a with
  | .inl q => .inl (ca a, q.2, .inl f)
  | .inr q => .inr (q.1, q.2.mapIdx (am_fv ad f))
def am_w (ad : Nat → Nat) (ca : Nat → ClassId) (mem : am_Mem) : va_W := (List.range 48).map fun a => (ad a, am_cell ad ca a (mem a))
def am_ty (a : Nat) : FieldType := match am_sh a with
  | .inl (true, _) => .boolean
  | _ => .int
def am_tys (ca : Nat → ClassId) : List (ClassId × FieldType) := (List.range 48).map fun a => (ca a, am_ty a)
def am_put (mem : am_Mem) (a : Nat) (f : Nat → Int32) : am_Mem := fun b => if b = a then f else mem b
def am_set (mem : am_Mem) (a i : Nat) (v : Int32) : am_Mem := am_put mem a (upd (mem a) i v)
theorem am_put_same (mem : am_Mem) (a : Nat) (f : Nat → Int32) : am_put mem a f a = f := by simp [am_put]
theorem am_put_ne (mem : am_Mem) {a b : Nat} (f : Nat → Int32) (h : b ≠ a) : am_put mem a f b = mem b := by simp [am_put, h]
theorem am_w_at (ad : Nat → Nat) (ca : Nat → ClassId) (mem : am_Mem) {a : Nat} (h : a < 48) : (am_w ad ca mem)[a]? = some (ad a, am_cell ad ca a (mem a)) := by
  simp [am_w, h]
theorem am_w_inv {ad : Nat → Nat} {ca : Nat → ClassId} {mem : am_Mem} {a : Nat} {q : Nat × va_E} (h : (am_w ad ca mem)[a]? = some q) : a < 48 ∧ q = (ad a, am_cell ad ca a (mem a)) := by
  have hl : a < (am_w ad ca mem).length := (List.getElem?_eq_some_iff.mp h).1
  have hl2 : a < 48 := by simpa [am_w] using hl
  refine ⟨hl2, ?_⟩
  rw [am_w_at ad ca mem hl2] at h
  exact (Option.some.inj h).symm
theorem am_w_put (ad : Nat → Nat) (ca : Nat → ClassId) (mem : am_Mem) (a : Nat) (f : Nat → Int32) : (am_w ad ca mem).set a (ad a, am_cell ad ca a f) = am_w ad ca (am_put mem a f) := by
  apply List.ext_getElem?
  intro i
  by_cases hi : i < 48
  · by_cases hia : a = i
    · subst hia
      rw [am_w_at _ _ _ hi, am_put_same, List.getElem?_set_self (by simpa [am_w] using hi)]
    · rw [List.getElem?_set_ne hia, am_w_at _ _ _ hi, am_w_at _ _ _ hi, am_put_ne _ _ (fun q => hia q.symm)]
  · have h1 : 48 ≤ i := by omega
    rw [List.getElem?_eq_none (by simpa [am_w] using h1), List.getElem?_eq_none (by simpa [am_w] using h1)]
theorem am_cell_arr {ad : Nat → Nat} {ca : Nat → ClassId} {a : Nat} {f : Nat → Int32} {q : Bool × Nat} (h : am_sh a = .inl q) : am_cell ad ca a f = .inl (ca a, q.2, .inl f) := by
  simp [am_cell, h]
theorem am_cell_obj {ad : Nat → Nat} {ca : Nat → ClassId} {a : Nat} {f : Nat → Int32} {q : Nat × List (Option Nat)} (h : am_sh a = .inr q) : am_cell ad ca a f = .inr (q.1, q.2.mapIdx (am_fv ad f)) := by
  simp [am_cell, h]
theorem am_fs_set (ad : Nat → Nat) (f : Nat → Int32) {fs : List (Option Nat)} {k : Nat} (v : Int32) (h : fs[k]? = some none) : (fs.mapIdx (am_fv ad f)).set k (.int v) = fs.mapIdx (am_fv ad (upd f k v)) := by
  apply List.ext_getElem?
  intro i
  by_cases hik : k = i
  · subst hik
    have hl : k < fs.length := (List.getElem?_eq_some_iff.mp h).1
    rw [List.getElem?_set_self (by simpa using hl), List.getElem?_mapIdx, h]
    simp [am_fv, upd]
  · rw [List.getElem?_set_ne hik, List.getElem?_mapIdx, List.getElem?_mapIdx]
    have hne : ¬ i = k := fun q => hik q.symm
    cases hf : fs[i]? with
    | none => rfl
    | some o => cases o <;> simp [am_fv, upd, hne]
theorem am_ty_at (ca : Nat → ClassId) {a : Nat} (h : a < 48) : (am_tys ca)[a]? = some (ca a, am_ty a) := by simp [am_tys, h]
theorem am_ty_int {a n : Nat} (h : am_sh a = .inl (false, n)) : am_ty a = .int := by simp [am_ty, h]
theorem am_ty_bool {a n : Nat} (h : am_sh a = .inl (true, n)) : am_ty a = .boolean := by simp [am_ty, h]
def am_inj (ad : Nat → Nat) : Prop := ∀ i j : Nat, i < 48 → j < 48 → ad i = ad j → i = j
def am_A (ad : Nat → Nat) : Nat → Prop := fun q => ∃ a, a < 48 ∧ q = ad a
theorem am_D {ad : Nat → Nat} (h : am_inj ad) (ca : Nat → ClassId) (mem : am_Mem) : va_D (am_A ad) (am_w ad ca mem) := by
  refine ⟨fun i j x y hi hj hxy => ?_, fun k q hk => ?_⟩
  · obtain ⟨h1, rfl⟩ := am_w_inv hi
    obtain ⟨h2, rfl⟩ := am_w_inv hj
    exact h i j h1 h2 hxy
  · obtain ⟨h1, rfl⟩ := am_w_inv hk
    exact ⟨k, h1, rfl⟩
def am_nest : List (String × Nat × MethodName × String) := [(RX6, 9, yX1_init, "MapNames"), (RX1, 47, yX6_isIn, "MapNames"), (RX1, 51, yX6_boxOf, "MapNames"), (RX0, 57, yX6_sized, "MapNames"), (RX0, 62, yX6_boxOf, "MapNames"), (RX5, 63, yX6_boxOf, "MapNames"), (RX5, 66, yX6_hasBit, "MapNames"), (RX1, 55, yX6_hasBit, "MapNames"), (RX5, 76, yX6_boxesOf, "MapNames"), (RX3, 23, yX6_boxOf, "MapNames"), (RX3, 33, yX6_toInt, "MapNames"), (RX4, 53, yX6_boxOf, "MapNames"), (RX2, 34, yX6_hasBit, "MapNames"), (RX2, 69, yX6_toInt, "MapNames")]
theorem am_nest_in : ∀ q ∈ am_nest, Cond.methodLinkNest q.1 q.2.1 q.2.2.1 q.2.2.2 ∈ lw_tbl := by decide +kernel
def am_Nst (s : State) : Prop := ∀ q ∈ am_nest, va_Nw (.methodLinkNest q.1 q.2.1 q.2.2.1 q.2.2.2) s
theorem am_Nst.warm {s U : State} (hW : s.WarmedH U.vm) (h : am_Nst s) : am_Nst U := fun q hq => va_Nw.warmM hW (h q hq)
def am_tbl : List Cond := lw_tbl.filter goodWord
theorem am_good {w : Cond} (h : w ∈ am_tbl) : (w.onTables && w.keeps) = true ∨ ∃ ty, w = .arrayClass ty := good_of_word (List.mem_filter.mp h).2
theorem am_goodIn (w : Cond) (h : w ∈ am_tbl) : GoodIn am_tbl (w :: am_tbl) := by
  intro x hx
  rcases List.mem_cons.mp hx with rfl | hx
  · exact ⟨h, am_good h⟩
  · exact ⟨hx, am_good hx⟩
def am_Scr (sc : Option (Nat × (Nat → Int32))) (ad : Nat → Nat) (s : State) : Prop := match sc with
  | none => True
  | some q => va_X (ad 100) q.1 q.2 s s.heap ∧ ad 100 < s.heap.size ∧ ¬ am_A ad (ad 100)
def am_C (M : am_M) (d : Nat) (p : Program) (R : Room) (s : State) (m : MethodId) (args : Array Value) (meth : Method) (c : Code) (dC : Nat → ClassId) (dI : Nat → Nat → Nat) (ad : Nat → Nat) (ca : Nat → ClassId) (cells slots : Nat) : Prop :=
  (p.tables.exec = Jvm.exec ∧ c.code = M.2.1 ∧ c.maxLocals = M.2.2.1 ∧ s.vm.findClass M.1.cls = some m.cls) ∧ (∀ w ∈ am_tbl, w.before args s = true) ∧ am_Nst s ∧ va_K (dC, dI) vwCl (am_tys ca) s ∧ (d ≤ R.frames ∧ 40 * d ≤ R.locals) ∧ (cells ≤ R.cells ∧ slots ≤ R.slots) ∧ am_Scr M.2.2.2.2 ad s
def am_H (dC : Nat → ClassId) (dI : Nat → Nat → Nat) (ad : Nat → Nat) (ca : Nat → ClassId) (s : State) (mem : am_Mem) (H : Heap) (locs : List Loc) : Prop :=
  va_P (dC, dI) vwCl (am_w ad ca mem) H ∧ am_inj ad ∧ va_S (am_A ad) s.heap H locs
def am_loc (ad : Nat → Nat) (ls : Array Slot) (nL : Nat) (loc : List Value) : Prop := ls.size = nL ∧ lv_wf ls ∧ ∀ (i : Nat) (v : Value), loc[i]? = some v → v ≠ .null → ls[i]? = some (.val (am_rel ad v))
def am_End (M : am_M) (p : Program) (l : Launch) (e : Env) (R : Room) (s : State) (m : MethodId) (args : Array Value) (below : List Frame) (meth : Method) (c : Code) (dC : Nat → ClassId) (dI : Nat → Nat → Nat) (ad : Nat → Nat) (ca : Nat → ClassId) (cells slots : Nat) (Z : State → Prop) (Qp : Option Value → am_Mem → Prop) : Prop :=
  ∀ (v : Option Value) (mem : am_Mem) (H : Heap) (locs : List Loc) (pc : Nat) (ls : Array Slot), am_H dC dI ad ca s mem H locs → Qp v mem → ((v = none ∧ M.2.2.2.1 = none ∧ decode M.2.1 pc = .ok (.return_, 1)) ∨ ∃ (x : Int32) (ty : FieldType), v = some (.int x) ∧ M.2.2.2.1 = some ty ∧ narrow ty (.int x) = .int x ∧ decode M.2.1 pc = .ok (.ireturn, 1)) → W p l e R s m args below meth c H locs cells slots Z (F0 m pc ls (v.toList.map (am_rel ad)))
/-- from this point of method M, with d frames left, the machine comes to its end, and Qp holds of what it returns and of the ints then -/
def am_J (M : am_M) (d pc : Nat) (loc st : List Value) (mem : am_Mem) (Qp : Option Value → am_Mem → Prop) : Prop :=
  ∀ (p : Program) (l : Launch) (e : Env) (R : Room) (s : State) (m : MethodId) (args : Array Value) (below : List Frame) (meth : Method) (c : Code) (dC : Nat → ClassId) (dI : Nat → Nat → Nat) (ad : Nat → Nat) (ca : Nat → ClassId) (cells slots : Nat) (Z : State → Prop),
    am_C M d p R s m args meth c dC dI ad ca cells slots → am_End M p l e R s m args below meth c dC dI ad ca cells slots Z Qp →
    ∀ (H : Heap) (locs : List Loc) (ls : Array Slot), am_H dC dI ad ca s mem H locs → am_loc ad ls M.2.2.1 loc → W p l e R s m args below meth c H locs cells slots Z (F0 m pc ls (st.map (am_rel ad)))
def am_Qc (dC : Nat → ClassId) (dI : Nat → Nat → Nat) (ad : Nat → Nat) (ca : Nat → ClassId) (Qp : Option Value → am_Mem → Prop) : Array Value → State → Outcome → State → Prop := fun _ st oc t =>
  (∃ (v : Option Value) (mem : am_Mem), oc = .returned (v.map (am_rel ad)) ∧ Qp v mem ∧ va_P (dC, dI) vwCl (am_w ad ca mem) t.heap) ∧ va_F (am_A ad) st t
def am_rm (d : Nat) : Room := { frames := d, cells := 0, slots := 0, locals := 40 * d }
def am_B (dC : Nat → ClassId) (dI : Nat → Nat → Nat) (ad : Nat → Nat) (ca : Nat → ClassId) (mem : am_Mem) (U : State) : Prop :=
  va_P (dC, dI) vwCl (am_w ad ca mem) U.heap ∧ va_K (dC, dI) vwCl (am_tys ca) U ∧ am_inj ad ∧ am_Nst U
/-- the contract of a method: from these arguments and these ints it returns, and Qp holds of what it returns and of the ints then -/
def am_Ct (M : am_M) (d : Nat) (as : List Value) (mem : am_Mem) (Qp : Option Value → am_Mem → Prop) : Prop :=
  ∀ (l : Launch) (dC : Nat → ClassId) (dI : Nat → Nat → Nat) (ad : Nat → Nat) (ca : Nat → ClassId),
    Met l M.1 (.code M.1 M.2.1 M.2.2.1 M.2.2.2.1 :: am_tbl) (am_rm d) (va_Pc (as.map (am_rel ad)) (am_B dC dI ad ca mem)) (am_Qc dC dI ad ca Qp) 0 0 (am_A ad)
def am_ent : List Value → List Value
  | [] => []
  | .long x :: vs => .long x :: .null :: am_ent vs
  | .double x :: vs => .double x :: .null :: am_ent vs
  | v :: vs => v :: am_ent vs
theorem am_rel_cat (ad : Nat → Nat) (v : Value) : (am_rel ad v).category = v.category := by cases v <;> rfl
theorem am_ent_cons (v : Value) (vs : List Value) : am_ent (v :: vs) = if v.category = 2 then v :: .null :: am_ent vs else v :: am_ent vs := by cases v <;> simp [am_ent, Value.category]
theorem am_ent_in (ad : Nat → Nat) : ∀ (as : List Value) (k i : Nat) (v : Value), (am_ent as)[i]? = some v → v ≠ .null → (k + i, am_rel ad v) ∈ lv_args k (as.map (am_rel ad)) := by
  intro as
  induction as with
  | nil => intro k i v h _; simp [am_ent] at h
  | cons a as ih =>
    intro k i v h hv
    rw [am_ent_cons] at h
    rw [List.map_cons]
    simp only [lv_args, am_rel_cat]
    by_cases h2 : a.category = 2
    · rw [if_pos h2] at h ⊢
      match i, h with
      | 0, h =>
        cases h
        exact List.mem_cons_self
      | 1, h =>
        cases h
        exact absurd rfl hv
      | i + 2, h =>
        have := ih (k + 2) i v h hv
        rw [show k + 2 + i = k + (i + 2) by omega] at this
        exact List.mem_cons_of_mem _ this
    · rw [if_neg h2] at h ⊢
      match i, h with
      | 0, h =>
        cases h
        exact List.mem_cons_self
      | i + 1, h =>
        have := ih (k + 1) i v h hv
        rw [show k + 1 + i = k + (i + 1) by omega] at this
        exact List.mem_cons_of_mem _ this
theorem am_ent_len (ad : Nat → Nat) : ∀ (as : List Value), (lg_sl (as.map (am_rel ad))).length = (am_ent as).length := by
  intro as
  induction as with
  | nil => rfl
  | cons a as ih =>
    rw [am_ent_cons, List.map_cons]
    have e : lg_sl (am_rel ad a :: as.map (am_rel ad)) = (if a.category = 2 then [.val (am_rel ad a), .second] else [.val (am_rel ad a)]) ++ lg_sl (as.map (am_rel ad)) := by
      simp [lg_sl, am_rel_cat]
    rw [e, List.length_append, ih]
    by_cases h2 : a.category = 2
    · rw [if_pos h2, if_pos h2]; simp; omega
    · rw [if_neg h2, if_neg h2]; simp; omega
/-- the contract out of the walk of the body -/
theorem am_ct {M : am_M} {d : Nat} {as : List Value} {mem : am_Mem} {Qp : Option Value → am_Mem → Prop} (hy : plainName M.1.cls = true) (hsc : M.2.2.2.2 = none) (hlen : (am_ent as).length ≤ M.2.2.1)
    (hJ : am_J M d 0 (am_ent as ++ List.replicate (M.2.2.1 - (am_ent as).length) .null) [] mem Qp) : am_Ct M d as mem Qp := by
  intro l dC dI ad ca
  refine Met.ofW (cc := M.2.1) (maxL := M.2.2.1) (ret := M.2.2.2.1) hy rfl ?_
  intro p e s m args below meth c s₁ B hml hv
  obtain ⟨rfl, hP, hK, hinj, hN⟩ := hv
  have hts := atoms_spec (ws := .code M.1 M.2.1 M.2.2.1 M.2.2.2.1 :: am_tbl) B.pre
  have hown : s.vm.findClass M.1.cls = some m.cls := findClass_of_methodNamed B.named
  have hlocks := B.notSynchronized
  have hr := B.returns
  have hl := lv_entry (as.map (am_rel ad)) (n := M.2.2.1) (by rw [am_ent_len]; exact hlen)
  rw [lg_entry_eq]
  generalize (lg_sl (as.map (am_rel ad)) ++ List.replicate (M.2.2.1 - (lg_sl (as.map (am_rel ad))).length) Slot.unset).toArray = ls at hl ⊢
  refine hJ p l e _ s m _ below meth c dC dI ad ca 0 0 _ ⟨⟨B.exec, B.bytes, hml, hown⟩, fun w h => hts w (List.mem_cons_of_mem _ h), hN, hK, ⟨Nat.le_refl _, Nat.le_refl _⟩, ⟨Nat.zero_le _, Nat.zero_le _⟩, by rw [hsc]; trivial⟩ ?_ s.heap [] ls ⟨hP, hinj, va_S.rf⟩ ⟨hl.1, hl.2.1, fun i v h1 h2 => ?_⟩
  · intro v mem' H locs pc ls' hH hq hend
    obtain ⟨hP', -, hS⟩ := hH
    rcases hend with ⟨rfl, hn, hd⟩ | ⟨x, ty, rfl, hn, hnar, hd⟩
    · exact W.vret B.exec B.bytes (by rw [hr, hn]) (fun t ht _ => ⟨⟨none, mem', rfl, hq, by rw [ht]; exact hP'⟩, hS.F ht⟩) hS.2.2 hd
    · exact W.zret B.exec B.bytes (by rw [hr, hn]) hnar (fun t ht _ => ⟨⟨some (.int x), mem', rfl, hq, by rw [ht]; exact hP'⟩, hS.F ht⟩) hS.2.2 hd
  · by_cases hi : i < (am_ent as).length
    · rw [List.getElem?_append_left hi] at h1
      have := am_ent_in ad as 0 i v h1 h2
      rw [Nat.zero_add] at this
      exact hl.2.2 _ this
    · rw [List.getElem?_append_right (by omega)] at h1
      exact absurd (List.eq_of_mem_replicate (List.mem_of_getElem? h1)) h2
theorem am_Ct.mono {M : am_M} {d : Nat} {as : List Value} {mem : am_Mem} {Q1 Q2 : Option Value → am_Mem → Prop} (h : am_Ct M d as mem Q1) (hq : ∀ r mem', Q1 r mem' → Q2 r mem') : am_Ct M d as mem Q2 := by
  intro l dC dI ad ca
  have h1 := h l dC dI ad ca
  intro p e hp hk hm s m args below hf happ hP hK
  obtain ⟨k, o, a1, a2, a3, ⟨⟨v, mem', b1, b2, b3⟩, b4⟩, b5⟩ := h1 p e hp hk hm s m args below hf happ hP hK
  exact ⟨k, o, a1, a2, a3, ⟨⟨v, mem', b1, hq _ _ b2, b3⟩, b4⟩, b5⟩
