/-! THE CONSTRUCTORS: which cells they make, in their order (printed by con.py) -/
theorem na_int (N : Nat) (cA : ClassId) : vp_cell cA (N, .inl (fun _ => 0)) = arrV cA N (fun _ => defaultValue .int) := rfl
theorem na_boolean (N : Nat) (cA : ClassId) : vp_cell cA (N, .inl (fun _ => 0)) = arrV cA N (fun _ => defaultValue .boolean) := rfl
theorem dfl0 : ∀ j, j < 9 → defaultValue (tyX0 j) = vp_V [.null, .int 0, .int 0, .null, .null, .null, .null, .null, .null] j := by decide +kernel
theorem dfl1 : ∀ j, j < 11 → defaultValue (tyX1 j) = vp_V [.int 0, .int 0, .int 0, .int 0, .int 0, .null, .null, .null, .null, .null, .null] j := by decide +kernel
theorem dfl2 : ∀ j, j < 7 → defaultValue (tyX2 j) = vp_V [.null, .int 0, .null, .null, .null, .int 0, .int 0] j := by decide +kernel
theorem dfl3 : ∀ j, j < 3 → defaultValue (tyX3 j) = vp_V [.null, .null, .null] j := by decide +kernel
theorem dfl4 : ∀ j, j < 5 → defaultValue (tyX4 j) = vp_V [.null, .null, .null, .null, .null] j := by decide +kernel
theorem dfl5 : ∀ j, j < 8 → defaultValue (tyX5 j) = vp_V [.null, .null, .null, .null, .int 0, .null, .null, .int 0] j := by decide +kernel
theorem dfl6 : ∀ j, j < 6 → defaultValue (tyX6 j) = vp_V [.null, .null, .null, .null, .null, .null] j := by decide +kernel
theorem dfl7 : ∀ j, j < 30 → defaultValue (tyX7 j) = vp_V [.int 0, .int 0, .int 0, .null, .null, .null, .null, .null, .null, .null, .int 0, .int 0, .int 0, .int 0, .null, .null, .int 0, .null, .null, .int 0, .int 0, .null, .null, .null, .null, .null, .null, .int 0, .int 0, .int 0] j := by decide +kernel
/-- what MapNames$Hand makes -/
def atX3 (dC : Nat → ClassId) (dI : Nat → Nat → Nat) (A : Nat → Prop) (a20 r1 r2 : Nat) : Unit → State → Prop := fun _ t => ∃ (a21 : Nat) (e21 : ClassId), va_P (dC, dI) vwCl [(a20, .inr (3, [.ref r1, .ref r2, .ref a21])), (a21, .inl (e21, 8, .inl (fun _ => 0)))] t.heap ∧ va_K (dC, dI) vwCl [(e21, .int)] t ∧ va_D A [(a20, .inr (3, [.ref r1, .ref r2, .ref a21])), (a21, .inl (e21, 8, .inl (fun _ => 0)))]
set_option maxHeartbeats 4000000 in
set_option maxRecDepth 100000 in
theorem kX3 (l : Launch) (dC : Nat → ClassId) (dI : Nat → Nat → Nat) (a20 r1 r2 sz : Nat) : Met l yX3_init (.code yX3_init cX3_init 3 none :: am_tbl) ({ frames := 2, cells := 1, slots := 8, locals := 40 }) (va_Pc [.ref a20, .ref r1, .ref r2] (fun U => U.heap.size = sz ∧ va_P (dC, dI) vwCl [(a20, .inr (3, [.null, .null, .null]))] U.heap ∧ va_K (dC, dI) vwCl [] U ∧ va_D (fun _ => True) [(a20, .inr (3, [.null, .null, .null]))])) (va_Qv (fun _ : Unit => True) (atX3 dC dI (va_A [(a20, .inr (3, [.null, .null, .null]))] sz) a20 r1 r2) (va_A [(a20, .inr (3, [.null, .null, .null]))] sz)) 1 8 (va_A [(a20, .inr (3, [.null, .null, .null]))] sz) := by
  refine Met.ofW (cc := cX3_init) (maxL := 3) (ret := none) (by decide) rfl ?_
  intro p e s m args below meth c s₁ B hml hv
  obtain ⟨rfl, hsz, hP, hK, hD0⟩ := hv
  have hx := B.exec
  have hb := B.bytes
  have hr := B.returns
  have hts0 := atoms_spec (ws := .code yX3_init cX3_init 3 none :: am_tbl) B.pre
  have hts : ∀ w ∈ am_tbl, w.before _ s = true := fun w h => hts0 w (List.mem_cons_of_mem _ h)
  have hown : s.vm.findClass RX3 = some m.cls := findClass_of_methodNamed B.named
  have hlocks := B.notSynchronized
  have hin : meth.name = "<init>" := (name_of_methodNamed B.named B.method).1
  subst hsz
  have hD := hD0.self (sz := s.heap.size)
  generalize hAe : va_A [(a20, .inr (3, [.null, .null, .null]))] s.heap.size = A at hD ⊢
  have hA : ∀ q : Nat, s.heap.size ≤ q → A q := fun q h => by rw [← hAe]; exact Or.inr h
  have hS : va_S A s.heap s.heap [] := va_S.rf
  have hl := lv_entry ([.ref a20, .ref r1, .ref r2]) (n := 3) (Nat.le_of_ble_eq_true rfl)
  rw [lg_entry_eq]
  generalize (lg_sl ([.ref a20, .ref r1, .ref r2]) ++ List.replicate (3 - (lg_sl ([.ref a20, .ref r1, .ref r2])).length) Slot.unset).toArray = ls at hl ⊢
  have hl : lv_has ls 3 [(0, .ref a20), (1, .ref r1), (2, .ref r2)] := hl
  refine lv_aload_n hx hb dX3_init_0 rfl (lv_at hl 0 rfl) ?_
  refine W.objInit hx hb hown (hts (.methodLink RX3 3 objectInit) (am_at 166 (by decide +kernel) (by decide +kernel))) (hts (.instanceMethod objectInit) (am_at 18 (by decide +kernel) (by decide +kernel))) (hts (.code objectInit ⟨#[0xb1]⟩ 1 none) (am_at 19 (by decide +kernel) (by decide +kernel))) rfl (by rw [hml]; exact hl.1) rfl dX3_init_1 (Nat.le_of_ble_eq_true rfl) (Nat.le_of_ble_eq_true rfl) ?_
  refine W.eq (g2 := F0 m 4 ls []) rfl ?_
  refine lv_aload_n hx hb dX3_init_4 rfl (lv_at hl 0 rfl) ?_
  refine lv_bipush (v := 8) hx hb dX3_init_5 rfl ?_
  refine va_newa (atype := .int) hx hb (hts (.arrayClass .int) (am_at 92 (by decide +kernel) (by decide +kernel))) (ty := .int) rfl hK hP hD hS hA (N' := 8) (a0 := (8, .inl (fun _ => 0))) (na_int 8) (by decide) rfl (by decide +kernel) (Nat.le_of_ble_eq_true rfl) (Nat.le_of_ble_eq_true rfl) dX3_init_7 (fun a21 e21 H hK hP hD hS => ?_)
  have hP : va_P (dC, dI) vwCl [(a20, .inr (3, [.null, .null, .null])), (a21, .inl (e21, 8, .inl (fun _ => 0)))] H := hP
  have hD : va_D A [(a20, .inr (3, [.null, .null, .null])), (a21, .inl (e21, 8, .inl (fun _ => 0)))] := hD
  have hK : va_K (dC, dI) vwCl [(e21, .int)] s := hK
  refine va_putF (D := (dC, dI)) (ci := 3) (v := .ref a21) (ty := tyX3 2) (C := RX3) (T := TX3) (N := 3) hx hb hts cl3.2.1 tyX3 cl3.2.2.1 cl3.2.2.2 hown hK hP hD hS 0 rfl cl3.1 2 (by decide) (hts (.fieldLink RX3 9 (TX3 2).1 (TX3 2).2.1 (TX3 2).2.2.1) (am_at 169 (by decide +kernel) (by decide +kernel))) (fun _ h9 => h9) rfl hin rfl (cl3.2.2.1 2 (by decide)) rfl rfl (Nat.le_of_ble_eq_true rfl) dX3_init_9 (fun H locs hP hD hS => ?_)
  have hP : va_P (dC, dI) vwCl [(a20, .inr (3, [.null, .null, .ref a21])), (a21, .inl (e21, 8, .inl (fun _ => 0)))] H := hP
  have hD : va_D A [(a20, .inr (3, [.null, .null, .ref a21])), (a21, .inl (e21, 8, .inl (fun _ => 0)))] := hD
  refine lv_aload_n hx hb dX3_init_12 rfl (lv_at hl 0 rfl) ?_
  refine lv_aload_n hx hb dX3_init_13 rfl (lv_at hl 1 rfl) ?_
  refine va_putF (D := (dC, dI)) (ci := 3) (v := .ref r1) (ty := tyX3 0) (C := RX3) (T := TX3) (N := 3) hx hb hts cl3.2.1 tyX3 cl3.2.2.1 cl3.2.2.2 hown hK hP hD hS 0 rfl cl3.1 0 (by decide) (hts (.fieldLink RX3 15 (TX3 0).1 (TX3 0).2.1 (TX3 0).2.2.1) (am_at 167 (by decide +kernel) (by decide +kernel))) (fun _ h9 => h9) rfl hin rfl (cl3.2.2.1 0 (by decide)) rfl rfl (Nat.le_of_ble_eq_true rfl) dX3_init_14 (fun H locs hP hD hS => ?_)
  have hP : va_P (dC, dI) vwCl [(a20, .inr (3, [.ref r1, .null, .ref a21])), (a21, .inl (e21, 8, .inl (fun _ => 0)))] H := hP
  have hD : va_D A [(a20, .inr (3, [.ref r1, .null, .ref a21])), (a21, .inl (e21, 8, .inl (fun _ => 0)))] := hD
  refine lv_aload_n hx hb dX3_init_17 rfl (lv_at hl 0 rfl) ?_
  refine lv_aload_n hx hb dX3_init_18 rfl (lv_at hl 2 rfl) ?_
  refine va_putF (D := (dC, dI)) (ci := 3) (v := .ref r2) (ty := tyX3 1) (C := RX3) (T := TX3) (N := 3) hx hb hts cl3.2.1 tyX3 cl3.2.2.1 cl3.2.2.2 hown hK hP hD hS 0 rfl cl3.1 1 (by decide) (hts (.fieldLink RX3 19 (TX3 1).1 (TX3 1).2.1 (TX3 1).2.2.1) (am_at 168 (by decide +kernel) (by decide +kernel))) (fun _ h9 => h9) rfl hin rfl (cl3.2.2.1 1 (by decide)) rfl rfl (Nat.le_of_ble_eq_true rfl) dX3_init_19 (fun H locs hP hD hS => ?_)
  have hP : va_P (dC, dI) vwCl [(a20, .inr (3, [.ref r1, .ref r2, .ref a21])), (a21, .inl (e21, 8, .inl (fun _ => 0)))] H := hP
  have hD : va_D A [(a20, .inr (3, [.ref r1, .ref r2, .ref a21])), (a21, .inl (e21, 8, .inl (fun _ => 0)))] := hD
  refine W.widen (k := 1) (n := 8) (Nat.le_of_ble_eq_true rfl) (Nat.le_of_ble_eq_true rfl) ?_
  exact W.vret hx hb hr (fun t ht hW => ⟨⟨(), rfl, trivial, a21, e21, by rw [ht]; exact hP, va_K.moved hW.alike hK, hD⟩, hS.F ht⟩) hS.2.2 dX3_init_22
