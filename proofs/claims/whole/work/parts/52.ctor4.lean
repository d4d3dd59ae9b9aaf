/-- what MapNames$Boxes makes -/
def atX0 (dC : Nat → ClassId) (dI : Nat → Nat → Nat) (A : Nat → Prop) (a8 r1 : Nat) : Unit → State → Prop := fun _ t => ∃ (a9 a10 a11 a12 a13 a14 : Nat) (e9 e10 e11 e12 e13 e14 : ClassId), va_P (dC, dI) vwCl [(a8, .inr (0, [.ref r1, .int 0, .int 0, .ref a9, .ref a10, .ref a11, .ref a12, .ref a13, .ref a14])), (a9, .inl (e9, 8, .inl (fun _ => 0))), (a10, .inl (e10, 8, .inl (fun _ => 0))), (a11, .inl (e11, 32, .inl (fun _ => 0))), (a12, .inl (e12, 32, .inl (fun _ => 0))), (a13, .inl (e13, 32, .inl (fun _ => 0))), (a14, .inl (e14, 32, .inl (fun _ => 0)))] t.heap ∧ va_K (dC, dI) vwCl [(e9, .int), (e10, .int), (e11, .int), (e12, .int), (e13, .int), (e14, .int)] t ∧ va_D A [(a8, .inr (0, [.ref r1, .int 0, .int 0, .ref a9, .ref a10, .ref a11, .ref a12, .ref a13, .ref a14])), (a9, .inl (e9, 8, .inl (fun _ => 0))), (a10, .inl (e10, 8, .inl (fun _ => 0))), (a11, .inl (e11, 32, .inl (fun _ => 0))), (a12, .inl (e12, 32, .inl (fun _ => 0))), (a13, .inl (e13, 32, .inl (fun _ => 0))), (a14, .inl (e14, 32, .inl (fun _ => 0)))]
set_option maxHeartbeats 4000000 in
set_option maxRecDepth 100000 in
theorem kX0 (l : Launch) (dC : Nat → ClassId) (dI : Nat → Nat → Nat) (a8 r1 sz : Nat) : Met l yX0_init (.code yX0_init cX0_init 2 none :: am_tbl) ({ frames := 2, cells := 6, slots := 144, locals := 40 }) (va_Pc [.ref a8, .ref r1] (fun U => U.heap.size = sz ∧ va_P (dC, dI) vwCl [(a8, .inr (0, [.null, .int 0, .int 0, .null, .null, .null, .null, .null, .null]))] U.heap ∧ va_K (dC, dI) vwCl [] U ∧ va_D (fun _ => True) [(a8, .inr (0, [.null, .int 0, .int 0, .null, .null, .null, .null, .null, .null]))])) (va_Qv (fun _ : Unit => True) (atX0 dC dI (va_A [(a8, .inr (0, [.null, .int 0, .int 0, .null, .null, .null, .null, .null, .null]))] sz) a8 r1) (va_A [(a8, .inr (0, [.null, .int 0, .int 0, .null, .null, .null, .null, .null, .null]))] sz)) 6 144 (va_A [(a8, .inr (0, [.null, .int 0, .int 0, .null, .null, .null, .null, .null, .null]))] sz) := by
  refine Met.ofW (cc := cX0_init) (maxL := 2) (ret := none) (by decide) rfl ?_
  intro p e s m args below meth c s₁ B hml hv
  obtain ⟨rfl, hsz, hP, hK, hD0⟩ := hv
  have hx := B.exec
  have hb := B.bytes
  have hr := B.returns
  have hts0 := atoms_spec (ws := .code yX0_init cX0_init 2 none :: am_tbl) B.pre
  have hts : ∀ w ∈ am_tbl, w.before _ s = true := fun w h => hts0 w (List.mem_cons_of_mem _ h)
  have hown : s.vm.findClass RX0 = some m.cls := findClass_of_methodNamed B.named
  have hlocks := B.notSynchronized
  have hin : meth.name = "<init>" := (name_of_methodNamed B.named B.method).1
  subst hsz
  have hD := hD0.self (sz := s.heap.size)
  generalize hAe : va_A [(a8, .inr (0, [.null, .int 0, .int 0, .null, .null, .null, .null, .null, .null]))] s.heap.size = A at hD ⊢
  have hA : ∀ q : Nat, s.heap.size ≤ q → A q := fun q h => by rw [← hAe]; exact Or.inr h
  have hS : va_S A s.heap s.heap [] := va_S.rf
  have hl := lv_entry ([.ref a8, .ref r1]) (n := 2) (Nat.le_of_ble_eq_true rfl)
  rw [lg_entry_eq]
  generalize (lg_sl ([.ref a8, .ref r1]) ++ List.replicate (2 - (lg_sl ([.ref a8, .ref r1])).length) Slot.unset).toArray = ls at hl ⊢
  have hl : lv_has ls 2 [(0, .ref a8), (1, .ref r1)] := hl
  refine lv_aload_n hx hb dX0_init_0 rfl (lv_at hl 0 rfl) ?_
  refine W.objInit hx hb hown (hts (.methodLink RX0 3 objectInit) (am_at 99 (by decide +kernel) (by decide +kernel))) (hts (.instanceMethod objectInit) (am_at 18 (by decide +kernel) (by decide +kernel))) (hts (.code objectInit ⟨#[0xb1]⟩ 1 none) (am_at 19 (by decide +kernel) (by decide +kernel))) rfl (by rw [hml]; exact hl.1) rfl dX0_init_1 (Nat.le_of_ble_eq_true rfl) (Nat.le_of_ble_eq_true rfl) ?_
  refine W.eq (g2 := F0 m 4 ls []) rfl ?_
  refine lv_aload_n hx hb dX0_init_4 rfl (lv_at hl 0 rfl) ?_
  refine lv_bipush (v := 8) hx hb dX0_init_5 rfl ?_
  refine va_newa (atype := .int) hx hb (hts (.arrayClass .int) (am_at 92 (by decide +kernel) (by decide +kernel))) (ty := .int) rfl hK hP hD hS hA (N' := 8) (a0 := (8, .inl (fun _ => 0))) (na_int 8) (by decide) rfl (by decide +kernel) (Nat.le_of_ble_eq_true rfl) (Nat.le_of_ble_eq_true rfl) dX0_init_7 (fun a9 e9 H hK hP hD hS => ?_)
  have hP : va_P (dC, dI) vwCl [(a8, .inr (0, [.null, .int 0, .int 0, .null, .null, .null, .null, .null, .null])), (a9, .inl (e9, 8, .inl (fun _ => 0)))] H := hP
  have hD : va_D A [(a8, .inr (0, [.null, .int 0, .int 0, .null, .null, .null, .null, .null, .null])), (a9, .inl (e9, 8, .inl (fun _ => 0)))] := hD
  have hK : va_K (dC, dI) vwCl [(e9, .int)] s := hK
  refine va_putF (D := (dC, dI)) (ci := 0) (v := .ref a9) (ty := tyX0 3) (C := RX0) (T := TX0) (N := 9) hx hb hts cl0.2.1 tyX0 cl0.2.2.1 cl0.2.2.2 hown hK hP hD hS 0 rfl cl0.1 3 (by decide) (hts (.fieldLink RX0 9 (TX0 3).1 (TX0 3).2.1 (TX0 3).2.2.1) (am_at 103 (by decide +kernel) (by decide +kernel))) (fun _ h9 => h9) rfl hin rfl (cl0.2.2.1 3 (by decide)) rfl rfl (Nat.le_of_ble_eq_true rfl) dX0_init_9 (fun H locs hP hD hS => ?_)
  have hP : va_P (dC, dI) vwCl [(a8, .inr (0, [.null, .int 0, .int 0, .ref a9, .null, .null, .null, .null, .null])), (a9, .inl (e9, 8, .inl (fun _ => 0)))] H := hP
  have hD : va_D A [(a8, .inr (0, [.null, .int 0, .int 0, .ref a9, .null, .null, .null, .null, .null])), (a9, .inl (e9, 8, .inl (fun _ => 0)))] := hD
  refine lv_aload_n hx hb dX0_init_12 rfl (lv_at hl 0 rfl) ?_
  refine lv_bipush (v := 8) hx hb dX0_init_13 rfl ?_
  refine va_newa (atype := .int) hx hb (hts (.arrayClass .int) (am_at 92 (by decide +kernel) (by decide +kernel))) (ty := .int) rfl hK hP hD hS hA (N' := 8) (a0 := (8, .inl (fun _ => 0))) (na_int 8) (by decide) rfl (by decide +kernel) (Nat.le_of_ble_eq_true rfl) (Nat.le_of_ble_eq_true rfl) dX0_init_15 (fun a10 e10 H hK hP hD hS => ?_)
  have hP : va_P (dC, dI) vwCl [(a8, .inr (0, [.null, .int 0, .int 0, .ref a9, .null, .null, .null, .null, .null])), (a9, .inl (e9, 8, .inl (fun _ => 0))), (a10, .inl (e10, 8, .inl (fun _ => 0)))] H := hP
  have hD : va_D A [(a8, .inr (0, [.null, .int 0, .int 0, .ref a9, .null, .null, .null, .null, .null])), (a9, .inl (e9, 8, .inl (fun _ => 0))), (a10, .inl (e10, 8, .inl (fun _ => 0)))] := hD
  have hK : va_K (dC, dI) vwCl [(e9, .int), (e10, .int)] s := hK
  refine va_putF (D := (dC, dI)) (ci := 0) (v := .ref a10) (ty := tyX0 4) (C := RX0) (T := TX0) (N := 9) hx hb hts cl0.2.1 tyX0 cl0.2.2.1 cl0.2.2.2 hown hK hP hD hS 0 rfl cl0.1 4 (by decide) (hts (.fieldLink RX0 15 (TX0 4).1 (TX0 4).2.1 (TX0 4).2.2.1) (am_at 104 (by decide +kernel) (by decide +kernel))) (fun _ h9 => h9) rfl hin rfl (cl0.2.2.1 4 (by decide)) rfl rfl (Nat.le_of_ble_eq_true rfl) dX0_init_17 (fun H locs hP hD hS => ?_)
  have hP : va_P (dC, dI) vwCl [(a8, .inr (0, [.null, .int 0, .int 0, .ref a9, .ref a10, .null, .null, .null, .null])), (a9, .inl (e9, 8, .inl (fun _ => 0))), (a10, .inl (e10, 8, .inl (fun _ => 0)))] H := hP
  have hD : va_D A [(a8, .inr (0, [.null, .int 0, .int 0, .ref a9, .ref a10, .null, .null, .null, .null])), (a9, .inl (e9, 8, .inl (fun _ => 0))), (a10, .inl (e10, 8, .inl (fun _ => 0)))] := hD
  refine lv_aload_n hx hb dX0_init_20 rfl (lv_at hl 0 rfl) ?_
  refine lv_bipush (v := 32) hx hb dX0_init_21 rfl ?_
  refine va_newa (atype := .int) hx hb (hts (.arrayClass .int) (am_at 92 (by decide +kernel) (by decide +kernel))) (ty := .int) rfl hK hP hD hS hA (N' := 32) (a0 := (32, .inl (fun _ => 0))) (na_int 32) (by decide) rfl (by decide +kernel) (Nat.le_of_ble_eq_true rfl) (Nat.le_of_ble_eq_true rfl) dX0_init_23 (fun a11 e11 H hK hP hD hS => ?_)
  have hP : va_P (dC, dI) vwCl [(a8, .inr (0, [.null, .int 0, .int 0, .ref a9, .ref a10, .null, .null, .null, .null])), (a9, .inl (e9, 8, .inl (fun _ => 0))), (a10, .inl (e10, 8, .inl (fun _ => 0))), (a11, .inl (e11, 32, .inl (fun _ => 0)))] H := hP
  have hD : va_D A [(a8, .inr (0, [.null, .int 0, .int 0, .ref a9, .ref a10, .null, .null, .null, .null])), (a9, .inl (e9, 8, .inl (fun _ => 0))), (a10, .inl (e10, 8, .inl (fun _ => 0))), (a11, .inl (e11, 32, .inl (fun _ => 0)))] := hD
  have hK : va_K (dC, dI) vwCl [(e9, .int), (e10, .int), (e11, .int)] s := hK
  refine va_putF (D := (dC, dI)) (ci := 0) (v := .ref a11) (ty := tyX0 5) (C := RX0) (T := TX0) (N := 9) hx hb hts cl0.2.1 tyX0 cl0.2.2.1 cl0.2.2.2 hown hK hP hD hS 0 rfl cl0.1 5 (by decide) (hts (.fieldLink RX0 18 (TX0 5).1 (TX0 5).2.1 (TX0 5).2.2.1) (am_at 105 (by decide +kernel) (by decide +kernel))) (fun _ h9 => h9) rfl hin rfl (cl0.2.2.1 5 (by decide)) rfl rfl (Nat.le_of_ble_eq_true rfl) dX0_init_25 (fun H locs hP hD hS => ?_)
  have hP : va_P (dC, dI) vwCl [(a8, .inr (0, [.null, .int 0, .int 0, .ref a9, .ref a10, .ref a11, .null, .null, .null])), (a9, .inl (e9, 8, .inl (fun _ => 0))), (a10, .inl (e10, 8, .inl (fun _ => 0))), (a11, .inl (e11, 32, .inl (fun _ => 0)))] H := hP
  have hD : va_D A [(a8, .inr (0, [.null, .int 0, .int 0, .ref a9, .ref a10, .ref a11, .null, .null, .null])), (a9, .inl (e9, 8, .inl (fun _ => 0))), (a10, .inl (e10, 8, .inl (fun _ => 0))), (a11, .inl (e11, 32, .inl (fun _ => 0)))] := hD
  refine lv_aload_n hx hb dX0_init_28 rfl (lv_at hl 0 rfl) ?_
  refine lv_bipush (v := 32) hx hb dX0_init_29 rfl ?_
  refine va_newa (atype := .int) hx hb (hts (.arrayClass .int) (am_at 92 (by decide +kernel) (by decide +kernel))) (ty := .int) rfl hK hP hD hS hA (N' := 32) (a0 := (32, .inl (fun _ => 0))) (na_int 32) (by decide) rfl (by decide +kernel) (Nat.le_of_ble_eq_true rfl) (Nat.le_of_ble_eq_true rfl) dX0_init_31 (fun a12 e12 H hK hP hD hS => ?_)
  have hP : va_P (dC, dI) vwCl [(a8, .inr (0, [.null, .int 0, .int 0, .ref a9, .ref a10, .ref a11, .null, .null, .null])), (a9, .inl (e9, 8, .inl (fun _ => 0))), (a10, .inl (e10, 8, .inl (fun _ => 0))), (a11, .inl (e11, 32, .inl (fun _ => 0))), (a12, .inl (e12, 32, .inl (fun _ => 0)))] H := hP
  have hD : va_D A [(a8, .inr (0, [.null, .int 0, .int 0, .ref a9, .ref a10, .ref a11, .null, .null, .null])), (a9, .inl (e9, 8, .inl (fun _ => 0))), (a10, .inl (e10, 8, .inl (fun _ => 0))), (a11, .inl (e11, 32, .inl (fun _ => 0))), (a12, .inl (e12, 32, .inl (fun _ => 0)))] := hD
  have hK : va_K (dC, dI) vwCl [(e9, .int), (e10, .int), (e11, .int), (e12, .int)] s := hK
  refine va_putF (D := (dC, dI)) (ci := 0) (v := .ref a12) (ty := tyX0 6) (C := RX0) (T := TX0) (N := 9) hx hb hts cl0.2.1 tyX0 cl0.2.2.1 cl0.2.2.2 hown hK hP hD hS 0 rfl cl0.1 6 (by decide) (hts (.fieldLink RX0 21 (TX0 6).1 (TX0 6).2.1 (TX0 6).2.2.1) (am_at 106 (by decide +kernel) (by decide +kernel))) (fun _ h9 => h9) rfl hin rfl (cl0.2.2.1 6 (by decide)) rfl rfl (Nat.le_of_ble_eq_true rfl) dX0_init_33 (fun H locs hP hD hS => ?_)
  have hP : va_P (dC, dI) vwCl [(a8, .inr (0, [.null, .int 0, .int 0, .ref a9, .ref a10, .ref a11, .ref a12, .null, .null])), (a9, .inl (e9, 8, .inl (fun _ => 0))), (a10, .inl (e10, 8, .inl (fun _ => 0))), (a11, .inl (e11, 32, .inl (fun _ => 0))), (a12, .inl (e12, 32, .inl (fun _ => 0)))] H := hP
  have hD : va_D A [(a8, .inr (0, [.null, .int 0, .int 0, .ref a9, .ref a10, .ref a11, .ref a12, .null, .null])), (a9, .inl (e9, 8, .inl (fun _ => 0))), (a10, .inl (e10, 8, .inl (fun _ => 0))), (a11, .inl (e11, 32, .inl (fun _ => 0))), (a12, .inl (e12, 32, .inl (fun _ => 0)))] := hD
  refine lv_aload_n hx hb dX0_init_36 rfl (lv_at hl 0 rfl) ?_
  refine lv_bipush (v := 32) hx hb dX0_init_37 rfl ?_
  refine va_newa (atype := .int) hx hb (hts (.arrayClass .int) (am_at 92 (by decide +kernel) (by decide +kernel))) (ty := .int) rfl hK hP hD hS hA (N' := 32) (a0 := (32, .inl (fun _ => 0))) (na_int 32) (by decide) rfl (by decide +kernel) (Nat.le_of_ble_eq_true rfl) (Nat.le_of_ble_eq_true rfl) dX0_init_39 (fun a13 e13 H hK hP hD hS => ?_)
  have hP : va_P (dC, dI) vwCl [(a8, .inr (0, [.null, .int 0, .int 0, .ref a9, .ref a10, .ref a11, .ref a12, .null, .null])), (a9, .inl (e9, 8, .inl (fun _ => 0))), (a10, .inl (e10, 8, .inl (fun _ => 0))), (a11, .inl (e11, 32, .inl (fun _ => 0))), (a12, .inl (e12, 32, .inl (fun _ => 0))), (a13, .inl (e13, 32, .inl (fun _ => 0)))] H := hP
  have hD : va_D A [(a8, .inr (0, [.null, .int 0, .int 0, .ref a9, .ref a10, .ref a11, .ref a12, .null, .null])), (a9, .inl (e9, 8, .inl (fun _ => 0))), (a10, .inl (e10, 8, .inl (fun _ => 0))), (a11, .inl (e11, 32, .inl (fun _ => 0))), (a12, .inl (e12, 32, .inl (fun _ => 0))), (a13, .inl (e13, 32, .inl (fun _ => 0)))] := hD
  have hK : va_K (dC, dI) vwCl [(e9, .int), (e10, .int), (e11, .int), (e12, .int), (e13, .int)] s := hK
  refine va_putF (D := (dC, dI)) (ci := 0) (v := .ref a13) (ty := tyX0 7) (C := RX0) (T := TX0) (N := 9) hx hb hts cl0.2.1 tyX0 cl0.2.2.1 cl0.2.2.2 hown hK hP hD hS 0 rfl cl0.1 7 (by decide) (hts (.fieldLink RX0 24 (TX0 7).1 (TX0 7).2.1 (TX0 7).2.2.1) (am_at 107 (by decide +kernel) (by decide +kernel))) (fun _ h9 => h9) rfl hin rfl (cl0.2.2.1 7 (by decide)) rfl rfl (Nat.le_of_ble_eq_true rfl) dX0_init_41 (fun H locs hP hD hS => ?_)
  have hP : va_P (dC, dI) vwCl [(a8, .inr (0, [.null, .int 0, .int 0, .ref a9, .ref a10, .ref a11, .ref a12, .ref a13, .null])), (a9, .inl (e9, 8, .inl (fun _ => 0))), (a10, .inl (e10, 8, .inl (fun _ => 0))), (a11, .inl (e11, 32, .inl (fun _ => 0))), (a12, .inl (e12, 32, .inl (fun _ => 0))), (a13, .inl (e13, 32, .inl (fun _ => 0)))] H := hP
  have hD : va_D A [(a8, .inr (0, [.null, .int 0, .int 0, .ref a9, .ref a10, .ref a11, .ref a12, .ref a13, .null])), (a9, .inl (e9, 8, .inl (fun _ => 0))), (a10, .inl (e10, 8, .inl (fun _ => 0))), (a11, .inl (e11, 32, .inl (fun _ => 0))), (a12, .inl (e12, 32, .inl (fun _ => 0))), (a13, .inl (e13, 32, .inl (fun _ => 0)))] := hD
  refine lv_aload_n hx hb dX0_init_44 rfl (lv_at hl 0 rfl) ?_
  refine lv_bipush (v := 32) hx hb dX0_init_45 rfl ?_
  refine va_newa (atype := .int) hx hb (hts (.arrayClass .int) (am_at 92 (by decide +kernel) (by decide +kernel))) (ty := .int) rfl hK hP hD hS hA (N' := 32) (a0 := (32, .inl (fun _ => 0))) (na_int 32) (by decide) rfl (by decide +kernel) (Nat.le_of_ble_eq_true rfl) (Nat.le_of_ble_eq_true rfl) dX0_init_47 (fun a14 e14 H hK hP hD hS => ?_)
  have hP : va_P (dC, dI) vwCl [(a8, .inr (0, [.null, .int 0, .int 0, .ref a9, .ref a10, .ref a11, .ref a12, .ref a13, .null])), (a9, .inl (e9, 8, .inl (fun _ => 0))), (a10, .inl (e10, 8, .inl (fun _ => 0))), (a11, .inl (e11, 32, .inl (fun _ => 0))), (a12, .inl (e12, 32, .inl (fun _ => 0))), (a13, .inl (e13, 32, .inl (fun _ => 0))), (a14, .inl (e14, 32, .inl (fun _ => 0)))] H := hP
  have hD : va_D A [(a8, .inr (0, [.null, .int 0, .int 0, .ref a9, .ref a10, .ref a11, .ref a12, .ref a13, .null])), (a9, .inl (e9, 8, .inl (fun _ => 0))), (a10, .inl (e10, 8, .inl (fun _ => 0))), (a11, .inl (e11, 32, .inl (fun _ => 0))), (a12, .inl (e12, 32, .inl (fun _ => 0))), (a13, .inl (e13, 32, .inl (fun _ => 0))), (a14, .inl (e14, 32, .inl (fun _ => 0)))] := hD
  have hK : va_K (dC, dI) vwCl [(e9, .int), (e10, .int), (e11, .int), (e12, .int), (e13, .int), (e14, .int)] s := hK
  refine va_putF (D := (dC, dI)) (ci := 0) (v := .ref a14) (ty := tyX0 8) (C := RX0) (T := TX0) (N := 9) hx hb hts cl0.2.1 tyX0 cl0.2.2.1 cl0.2.2.2 hown hK hP hD hS 0 rfl cl0.1 8 (by decide) (hts (.fieldLink RX0 27 (TX0 8).1 (TX0 8).2.1 (TX0 8).2.2.1) (am_at 108 (by decide +kernel) (by decide +kernel))) (fun _ h9 => h9) rfl hin rfl (cl0.2.2.1 8 (by decide)) rfl rfl (Nat.le_of_ble_eq_true rfl) dX0_init_49 (fun H locs hP hD hS => ?_)
  have hP : va_P (dC, dI) vwCl [(a8, .inr (0, [.null, .int 0, .int 0, .ref a9, .ref a10, .ref a11, .ref a12, .ref a13, .ref a14])), (a9, .inl (e9, 8, .inl (fun _ => 0))), (a10, .inl (e10, 8, .inl (fun _ => 0))), (a11, .inl (e11, 32, .inl (fun _ => 0))), (a12, .inl (e12, 32, .inl (fun _ => 0))), (a13, .inl (e13, 32, .inl (fun _ => 0))), (a14, .inl (e14, 32, .inl (fun _ => 0)))] H := hP
  have hD : va_D A [(a8, .inr (0, [.null, .int 0, .int 0, .ref a9, .ref a10, .ref a11, .ref a12, .ref a13, .ref a14])), (a9, .inl (e9, 8, .inl (fun _ => 0))), (a10, .inl (e10, 8, .inl (fun _ => 0))), (a11, .inl (e11, 32, .inl (fun _ => 0))), (a12, .inl (e12, 32, .inl (fun _ => 0))), (a13, .inl (e13, 32, .inl (fun _ => 0))), (a14, .inl (e14, 32, .inl (fun _ => 0)))] := hD
  refine lv_aload_n hx hb dX0_init_52 rfl (lv_at hl 0 rfl) ?_
  refine lv_aload_n hx hb dX0_init_53 rfl (lv_at hl 1 rfl) ?_
  refine va_putF (D := (dC, dI)) (ci := 0) (v := .ref r1) (ty := tyX0 0) (C := RX0) (T := TX0) (N := 9) hx hb hts cl0.2.1 tyX0 cl0.2.2.1 cl0.2.2.2 hown hK hP hD hS 0 rfl cl0.1 0 (by decide) (hts (.fieldLink RX0 30 (TX0 0).1 (TX0 0).2.1 (TX0 0).2.2.1) (am_at 100 (by decide +kernel) (by decide +kernel))) (fun _ h9 => h9) rfl hin rfl (cl0.2.2.1 0 (by decide)) rfl rfl (Nat.le_of_ble_eq_true rfl) dX0_init_54 (fun H locs hP hD hS => ?_)
  have hP : va_P (dC, dI) vwCl [(a8, .inr (0, [.ref r1, .int 0, .int 0, .ref a9, .ref a10, .ref a11, .ref a12, .ref a13, .ref a14])), (a9, .inl (e9, 8, .inl (fun _ => 0))), (a10, .inl (e10, 8, .inl (fun _ => 0))), (a11, .inl (e11, 32, .inl (fun _ => 0))), (a12, .inl (e12, 32, .inl (fun _ => 0))), (a13, .inl (e13, 32, .inl (fun _ => 0))), (a14, .inl (e14, 32, .inl (fun _ => 0)))] H := hP
  have hD : va_D A [(a8, .inr (0, [.ref r1, .int 0, .int 0, .ref a9, .ref a10, .ref a11, .ref a12, .ref a13, .ref a14])), (a9, .inl (e9, 8, .inl (fun _ => 0))), (a10, .inl (e10, 8, .inl (fun _ => 0))), (a11, .inl (e11, 32, .inl (fun _ => 0))), (a12, .inl (e12, 32, .inl (fun _ => 0))), (a13, .inl (e13, 32, .inl (fun _ => 0))), (a14, .inl (e14, 32, .inl (fun _ => 0)))] := hD
  refine W.widen (k := 6) (n := 144) (Nat.le_of_ble_eq_true rfl) (Nat.le_of_ble_eq_true rfl) ?_
  exact W.vret hx hb hr (fun t ht hW => ⟨⟨(), rfl, trivial, a9, a10, a11, a12, a13, a14, e9, e10, e11, e12, e13, e14, by rw [ht]; exact hP, va_K.moved hW.alike hK, hD⟩, hS.F ht⟩) hS.2.2 dX0_init_57
