/-- what MapNames$Search makes -/
def atX5 (dC : Nat → ClassId) (dI : Nat → Nat → Nat) (A : Nat → Prop) (a15 r1 r2 : Nat) : Unit → State → Prop := fun _ t => ∃ (a16 a17 a18 a19 : Nat) (e16 e17 e18 e19 : ClassId), va_P (dC, dI) vwCl [(a15, .inr (5, [.ref r1, .ref r2, .ref a16, .ref a17, .int 0, .ref a18, .ref a19, .int 0])), (a16, .inl (e16, 32, .inl (fun _ => 0))), (a17, .inl (e17, 32, .inl (fun _ => 0))), (a18, .inl (e18, 8, .inl (fun _ => 0))), (a19, .inl (e19, 8, .inl (fun _ => 0)))] t.heap ∧ va_K (dC, dI) vwCl [(e16, .int), (e17, .int), (e18, .int), (e19, .int)] t ∧ va_D A [(a15, .inr (5, [.ref r1, .ref r2, .ref a16, .ref a17, .int 0, .ref a18, .ref a19, .int 0])), (a16, .inl (e16, 32, .inl (fun _ => 0))), (a17, .inl (e17, 32, .inl (fun _ => 0))), (a18, .inl (e18, 8, .inl (fun _ => 0))), (a19, .inl (e19, 8, .inl (fun _ => 0)))]
set_option maxHeartbeats 4000000 in
set_option maxRecDepth 100000 in
theorem kX5 (l : Launch) (dC : Nat → ClassId) (dI : Nat → Nat → Nat) (a15 r1 r2 sz : Nat) : Met l yX5_init (.code yX5_init cX5_init 3 none :: am_tbl) ({ frames := 2, cells := 4, slots := 80, locals := 40 }) (va_Pc [.ref a15, .ref r1, .ref r2] (fun U => U.heap.size = sz ∧ va_P (dC, dI) vwCl [(a15, .inr (5, [.null, .null, .null, .null, .int 0, .null, .null, .int 0]))] U.heap ∧ va_K (dC, dI) vwCl [] U ∧ va_D (fun _ => True) [(a15, .inr (5, [.null, .null, .null, .null, .int 0, .null, .null, .int 0]))])) (va_Qv (fun _ : Unit => True) (atX5 dC dI (va_A [(a15, .inr (5, [.null, .null, .null, .null, .int 0, .null, .null, .int 0]))] sz) a15 r1 r2) (va_A [(a15, .inr (5, [.null, .null, .null, .null, .int 0, .null, .null, .int 0]))] sz)) 4 80 (va_A [(a15, .inr (5, [.null, .null, .null, .null, .int 0, .null, .null, .int 0]))] sz) := by
  refine Met.ofW (cc := cX5_init) (maxL := 3) (ret := none) (by decide) rfl ?_
  intro p e s m args below meth c s₁ B hml hv
  obtain ⟨rfl, hsz, hP, hK, hD0⟩ := hv
  have hx := B.exec
  have hb := B.bytes
  have hr := B.returns
  have hts0 := atoms_spec (ws := .code yX5_init cX5_init 3 none :: am_tbl) B.pre
  have hts : ∀ w ∈ am_tbl, w.before _ s = true := fun w h => hts0 w (List.mem_cons_of_mem _ h)
  have hown : s.vm.findClass RX5 = some m.cls := findClass_of_methodNamed B.named
  have hlocks := B.notSynchronized
  have hin : meth.name = "<init>" := (name_of_methodNamed B.named B.method).1
  subst hsz
  have hD := hD0.self (sz := s.heap.size)
  generalize hAe : va_A [(a15, .inr (5, [.null, .null, .null, .null, .int 0, .null, .null, .int 0]))] s.heap.size = A at hD ⊢
  have hA : ∀ q : Nat, s.heap.size ≤ q → A q := fun q h => by rw [← hAe]; exact Or.inr h
  have hS : va_S A s.heap s.heap [] := va_S.rf
  have hl := lv_entry ([.ref a15, .ref r1, .ref r2]) (n := 3) (Nat.le_of_ble_eq_true rfl)
  rw [lg_entry_eq]
  generalize (lg_sl ([.ref a15, .ref r1, .ref r2]) ++ List.replicate (3 - (lg_sl ([.ref a15, .ref r1, .ref r2])).length) Slot.unset).toArray = ls at hl ⊢
  have hl : lv_has ls 3 [(0, .ref a15), (1, .ref r1), (2, .ref r2)] := hl
  refine lv_aload_n hx hb dX5_init_0 rfl (lv_at hl 0 rfl) ?_
  refine W.objInit hx hb hown (hts (.methodLink RX5 3 objectInit) (am_at 133 (by decide +kernel) (by decide +kernel))) (hts (.instanceMethod objectInit) (am_at 18 (by decide +kernel) (by decide +kernel))) (hts (.code objectInit ⟨#[0xb1]⟩ 1 none) (am_at 19 (by decide +kernel) (by decide +kernel))) rfl (by rw [hml]; exact hl.1) rfl dX5_init_1 (Nat.le_of_ble_eq_true rfl) (Nat.le_of_ble_eq_true rfl) ?_
  refine W.eq (g2 := F0 m 4 ls []) rfl ?_
  refine lv_aload_n hx hb dX5_init_4 rfl (lv_at hl 0 rfl) ?_
  refine lv_bipush (v := 32) hx hb dX5_init_5 rfl ?_
  refine va_newa (atype := .int) hx hb (hts (.arrayClass .int) (am_at 92 (by decide +kernel) (by decide +kernel))) (ty := .int) rfl hK hP hD hS hA (N' := 32) (a0 := (32, .inl (fun _ => 0))) (na_int 32) (by decide) rfl (by decide +kernel) (Nat.le_of_ble_eq_true rfl) (Nat.le_of_ble_eq_true rfl) dX5_init_7 (fun a16 e16 H hK hP hD hS => ?_)
  have hP : va_P (dC, dI) vwCl [(a15, .inr (5, [.null, .null, .null, .null, .int 0, .null, .null, .int 0])), (a16, .inl (e16, 32, .inl (fun _ => 0)))] H := hP
  have hD : va_D A [(a15, .inr (5, [.null, .null, .null, .null, .int 0, .null, .null, .int 0])), (a16, .inl (e16, 32, .inl (fun _ => 0)))] := hD
  have hK : va_K (dC, dI) vwCl [(e16, .int)] s := hK
  refine va_putF (D := (dC, dI)) (ci := 5) (v := .ref a16) (ty := tyX5 2) (C := RX5) (T := TX5) (N := 8) hx hb hts cl5.2.1 tyX5 cl5.2.2.1 cl5.2.2.2 hown hK hP hD hS 0 rfl cl5.1 2 (by decide) (hts (.fieldLink RX5 9 (TX5 2).1 (TX5 2).2.1 (TX5 2).2.2.1) (am_at 136 (by decide +kernel) (by decide +kernel))) (fun _ h9 => h9) rfl hin rfl (cl5.2.2.1 2 (by decide)) rfl rfl (Nat.le_of_ble_eq_true rfl) dX5_init_9 (fun H locs hP hD hS => ?_)
  have hP : va_P (dC, dI) vwCl [(a15, .inr (5, [.null, .null, .ref a16, .null, .int 0, .null, .null, .int 0])), (a16, .inl (e16, 32, .inl (fun _ => 0)))] H := hP
  have hD : va_D A [(a15, .inr (5, [.null, .null, .ref a16, .null, .int 0, .null, .null, .int 0])), (a16, .inl (e16, 32, .inl (fun _ => 0)))] := hD
  refine lv_aload_n hx hb dX5_init_12 rfl (lv_at hl 0 rfl) ?_
  refine lv_bipush (v := 32) hx hb dX5_init_13 rfl ?_
  refine va_newa (atype := .int) hx hb (hts (.arrayClass .int) (am_at 92 (by decide +kernel) (by decide +kernel))) (ty := .int) rfl hK hP hD hS hA (N' := 32) (a0 := (32, .inl (fun _ => 0))) (na_int 32) (by decide) rfl (by decide +kernel) (Nat.le_of_ble_eq_true rfl) (Nat.le_of_ble_eq_true rfl) dX5_init_15 (fun a17 e17 H hK hP hD hS => ?_)
  have hP : va_P (dC, dI) vwCl [(a15, .inr (5, [.null, .null, .ref a16, .null, .int 0, .null, .null, .int 0])), (a16, .inl (e16, 32, .inl (fun _ => 0))), (a17, .inl (e17, 32, .inl (fun _ => 0)))] H := hP
  have hD : va_D A [(a15, .inr (5, [.null, .null, .ref a16, .null, .int 0, .null, .null, .int 0])), (a16, .inl (e16, 32, .inl (fun _ => 0))), (a17, .inl (e17, 32, .inl (fun _ => 0)))] := hD
  have hK : va_K (dC, dI) vwCl [(e16, .int), (e17, .int)] s := hK
  refine va_putF (D := (dC, dI)) (ci := 5) (v := .ref a17) (ty := tyX5 3) (C := RX5) (T := TX5) (N := 8) hx hb hts cl5.2.1 tyX5 cl5.2.2.1 cl5.2.2.2 hown hK hP hD hS 0 rfl cl5.1 3 (by decide) (hts (.fieldLink RX5 15 (TX5 3).1 (TX5 3).2.1 (TX5 3).2.2.1) (am_at 137 (by decide +kernel) (by decide +kernel))) (fun _ h9 => h9) rfl hin rfl (cl5.2.2.1 3 (by decide)) rfl rfl (Nat.le_of_ble_eq_true rfl) dX5_init_17 (fun H locs hP hD hS => ?_)
  have hP : va_P (dC, dI) vwCl [(a15, .inr (5, [.null, .null, .ref a16, .ref a17, .int 0, .null, .null, .int 0])), (a16, .inl (e16, 32, .inl (fun _ => 0))), (a17, .inl (e17, 32, .inl (fun _ => 0)))] H := hP
  have hD : va_D A [(a15, .inr (5, [.null, .null, .ref a16, .ref a17, .int 0, .null, .null, .int 0])), (a16, .inl (e16, 32, .inl (fun _ => 0))), (a17, .inl (e17, 32, .inl (fun _ => 0)))] := hD
  refine lv_aload_n hx hb dX5_init_20 rfl (lv_at hl 0 rfl) ?_
  refine lv_bipush (v := 8) hx hb dX5_init_21 rfl ?_
  refine va_newa (atype := .int) hx hb (hts (.arrayClass .int) (am_at 92 (by decide +kernel) (by decide +kernel))) (ty := .int) rfl hK hP hD hS hA (N' := 8) (a0 := (8, .inl (fun _ => 0))) (na_int 8) (by decide) rfl (by decide +kernel) (Nat.le_of_ble_eq_true rfl) (Nat.le_of_ble_eq_true rfl) dX5_init_23 (fun a18 e18 H hK hP hD hS => ?_)
  have hP : va_P (dC, dI) vwCl [(a15, .inr (5, [.null, .null, .ref a16, .ref a17, .int 0, .null, .null, .int 0])), (a16, .inl (e16, 32, .inl (fun _ => 0))), (a17, .inl (e17, 32, .inl (fun _ => 0))), (a18, .inl (e18, 8, .inl (fun _ => 0)))] H := hP
  have hD : va_D A [(a15, .inr (5, [.null, .null, .ref a16, .ref a17, .int 0, .null, .null, .int 0])), (a16, .inl (e16, 32, .inl (fun _ => 0))), (a17, .inl (e17, 32, .inl (fun _ => 0))), (a18, .inl (e18, 8, .inl (fun _ => 0)))] := hD
  have hK : va_K (dC, dI) vwCl [(e16, .int), (e17, .int), (e18, .int)] s := hK
  refine va_putF (D := (dC, dI)) (ci := 5) (v := .ref a18) (ty := tyX5 5) (C := RX5) (T := TX5) (N := 8) hx hb hts cl5.2.1 tyX5 cl5.2.2.1 cl5.2.2.2 hown hK hP hD hS 0 rfl cl5.1 5 (by decide) (hts (.fieldLink RX5 18 (TX5 5).1 (TX5 5).2.1 (TX5 5).2.2.1) (am_at 139 (by decide +kernel) (by decide +kernel))) (fun _ h9 => h9) rfl hin rfl (cl5.2.2.1 5 (by decide)) rfl rfl (Nat.le_of_ble_eq_true rfl) dX5_init_25 (fun H locs hP hD hS => ?_)
  have hP : va_P (dC, dI) vwCl [(a15, .inr (5, [.null, .null, .ref a16, .ref a17, .int 0, .ref a18, .null, .int 0])), (a16, .inl (e16, 32, .inl (fun _ => 0))), (a17, .inl (e17, 32, .inl (fun _ => 0))), (a18, .inl (e18, 8, .inl (fun _ => 0)))] H := hP
  have hD : va_D A [(a15, .inr (5, [.null, .null, .ref a16, .ref a17, .int 0, .ref a18, .null, .int 0])), (a16, .inl (e16, 32, .inl (fun _ => 0))), (a17, .inl (e17, 32, .inl (fun _ => 0))), (a18, .inl (e18, 8, .inl (fun _ => 0)))] := hD
  refine lv_aload_n hx hb dX5_init_28 rfl (lv_at hl 0 rfl) ?_
  refine lv_bipush (v := 8) hx hb dX5_init_29 rfl ?_
  refine va_newa (atype := .int) hx hb (hts (.arrayClass .int) (am_at 92 (by decide +kernel) (by decide +kernel))) (ty := .int) rfl hK hP hD hS hA (N' := 8) (a0 := (8, .inl (fun _ => 0))) (na_int 8) (by decide) rfl (by decide +kernel) (Nat.le_of_ble_eq_true rfl) (Nat.le_of_ble_eq_true rfl) dX5_init_31 (fun a19 e19 H hK hP hD hS => ?_)
  have hP : va_P (dC, dI) vwCl [(a15, .inr (5, [.null, .null, .ref a16, .ref a17, .int 0, .ref a18, .null, .int 0])), (a16, .inl (e16, 32, .inl (fun _ => 0))), (a17, .inl (e17, 32, .inl (fun _ => 0))), (a18, .inl (e18, 8, .inl (fun _ => 0))), (a19, .inl (e19, 8, .inl (fun _ => 0)))] H := hP
  have hD : va_D A [(a15, .inr (5, [.null, .null, .ref a16, .ref a17, .int 0, .ref a18, .null, .int 0])), (a16, .inl (e16, 32, .inl (fun _ => 0))), (a17, .inl (e17, 32, .inl (fun _ => 0))), (a18, .inl (e18, 8, .inl (fun _ => 0))), (a19, .inl (e19, 8, .inl (fun _ => 0)))] := hD
  have hK : va_K (dC, dI) vwCl [(e16, .int), (e17, .int), (e18, .int), (e19, .int)] s := hK
  refine va_putF (D := (dC, dI)) (ci := 5) (v := .ref a19) (ty := tyX5 6) (C := RX5) (T := TX5) (N := 8) hx hb hts cl5.2.1 tyX5 cl5.2.2.1 cl5.2.2.2 hown hK hP hD hS 0 rfl cl5.1 6 (by decide) (hts (.fieldLink RX5 21 (TX5 6).1 (TX5 6).2.1 (TX5 6).2.2.1) (am_at 140 (by decide +kernel) (by decide +kernel))) (fun _ h9 => h9) rfl hin rfl (cl5.2.2.1 6 (by decide)) rfl rfl (Nat.le_of_ble_eq_true rfl) dX5_init_33 (fun H locs hP hD hS => ?_)
  have hP : va_P (dC, dI) vwCl [(a15, .inr (5, [.null, .null, .ref a16, .ref a17, .int 0, .ref a18, .ref a19, .int 0])), (a16, .inl (e16, 32, .inl (fun _ => 0))), (a17, .inl (e17, 32, .inl (fun _ => 0))), (a18, .inl (e18, 8, .inl (fun _ => 0))), (a19, .inl (e19, 8, .inl (fun _ => 0)))] H := hP
  have hD : va_D A [(a15, .inr (5, [.null, .null, .ref a16, .ref a17, .int 0, .ref a18, .ref a19, .int 0])), (a16, .inl (e16, 32, .inl (fun _ => 0))), (a17, .inl (e17, 32, .inl (fun _ => 0))), (a18, .inl (e18, 8, .inl (fun _ => 0))), (a19, .inl (e19, 8, .inl (fun _ => 0)))] := hD
  refine lv_aload_n hx hb dX5_init_36 rfl (lv_at hl 0 rfl) ?_
  refine lv_aload_n hx hb dX5_init_37 rfl (lv_at hl 1 rfl) ?_
  refine va_putF (D := (dC, dI)) (ci := 5) (v := .ref r1) (ty := tyX5 0) (C := RX5) (T := TX5) (N := 8) hx hb hts cl5.2.1 tyX5 cl5.2.2.1 cl5.2.2.2 hown hK hP hD hS 0 rfl cl5.1 0 (by decide) (hts (.fieldLink RX5 24 (TX5 0).1 (TX5 0).2.1 (TX5 0).2.2.1) (am_at 134 (by decide +kernel) (by decide +kernel))) (fun _ h9 => h9) rfl hin rfl (cl5.2.2.1 0 (by decide)) rfl rfl (Nat.le_of_ble_eq_true rfl) dX5_init_38 (fun H locs hP hD hS => ?_)
  have hP : va_P (dC, dI) vwCl [(a15, .inr (5, [.ref r1, .null, .ref a16, .ref a17, .int 0, .ref a18, .ref a19, .int 0])), (a16, .inl (e16, 32, .inl (fun _ => 0))), (a17, .inl (e17, 32, .inl (fun _ => 0))), (a18, .inl (e18, 8, .inl (fun _ => 0))), (a19, .inl (e19, 8, .inl (fun _ => 0)))] H := hP
  have hD : va_D A [(a15, .inr (5, [.ref r1, .null, .ref a16, .ref a17, .int 0, .ref a18, .ref a19, .int 0])), (a16, .inl (e16, 32, .inl (fun _ => 0))), (a17, .inl (e17, 32, .inl (fun _ => 0))), (a18, .inl (e18, 8, .inl (fun _ => 0))), (a19, .inl (e19, 8, .inl (fun _ => 0)))] := hD
  refine lv_aload_n hx hb dX5_init_41 rfl (lv_at hl 0 rfl) ?_
  refine lv_aload_n hx hb dX5_init_42 rfl (lv_at hl 2 rfl) ?_
  refine va_putF (D := (dC, dI)) (ci := 5) (v := .ref r2) (ty := tyX5 1) (C := RX5) (T := TX5) (N := 8) hx hb hts cl5.2.1 tyX5 cl5.2.2.1 cl5.2.2.2 hown hK hP hD hS 0 rfl cl5.1 1 (by decide) (hts (.fieldLink RX5 28 (TX5 1).1 (TX5 1).2.1 (TX5 1).2.2.1) (am_at 135 (by decide +kernel) (by decide +kernel))) (fun _ h9 => h9) rfl hin rfl (cl5.2.2.1 1 (by decide)) rfl rfl (Nat.le_of_ble_eq_true rfl) dX5_init_43 (fun H locs hP hD hS => ?_)
  have hP : va_P (dC, dI) vwCl [(a15, .inr (5, [.ref r1, .ref r2, .ref a16, .ref a17, .int 0, .ref a18, .ref a19, .int 0])), (a16, .inl (e16, 32, .inl (fun _ => 0))), (a17, .inl (e17, 32, .inl (fun _ => 0))), (a18, .inl (e18, 8, .inl (fun _ => 0))), (a19, .inl (e19, 8, .inl (fun _ => 0)))] H := hP
  have hD : va_D A [(a15, .inr (5, [.ref r1, .ref r2, .ref a16, .ref a17, .int 0, .ref a18, .ref a19, .int 0])), (a16, .inl (e16, 32, .inl (fun _ => 0))), (a17, .inl (e17, 32, .inl (fun _ => 0))), (a18, .inl (e18, 8, .inl (fun _ => 0))), (a19, .inl (e19, 8, .inl (fun _ => 0)))] := hD
  refine W.widen (k := 4) (n := 80) (Nat.le_of_ble_eq_true rfl) (Nat.le_of_ble_eq_true rfl) ?_
  exact W.vret hx hb hr (fun t ht hW => ⟨⟨(), rfl, trivial, a16, a17, a18, a19, e16, e17, e18, e19, by rw [ht]; exact hP, va_K.moved hW.alike hK, hD⟩, hS.F ht⟩) hS.2.2 dX5_init_46
