/-- what MapNames$Chart makes -/
def atX1 (dC : Nat → ClassId) (dI : Nat → Nat → Nat) (A : Nat → Prop) (a1 : Nat) : Unit → State → Prop := fun _ t => ∃ (a2 a3 a4 a5 a6 a7 : Nat) (e2 e3 e4 e5 e6 e7 : ClassId), va_P (dC, dI) vwCl [(a1, .inr (1, [.int 100, .int 100, .int 10, .int 0, .int 0, .ref a2, .ref a3, .ref a4, .ref a5, .ref a6, .ref a7])), (a2, .inl (e2, 8, .inl (fun _ => 0))), (a3, .inl (e3, 8, .inl (fun _ => 0))), (a4, .inl (e4, 8, .inl (fun _ => 0))), (a5, .inl (e5, 8, .inl (fun _ => 0))), (a6, .inl (e6, 8, .inl (fun _ => 0))), (a7, .inl (e7, 32, .inl (fun _ => 0)))] t.heap ∧ va_K (dC, dI) vwCl [(e2, .int), (e3, .int), (e4, .int), (e5, .int), (e6, .int), (e7, .boolean)] t ∧ va_D A [(a1, .inr (1, [.int 100, .int 100, .int 10, .int 0, .int 0, .ref a2, .ref a3, .ref a4, .ref a5, .ref a6, .ref a7])), (a2, .inl (e2, 8, .inl (fun _ => 0))), (a3, .inl (e3, 8, .inl (fun _ => 0))), (a4, .inl (e4, 8, .inl (fun _ => 0))), (a5, .inl (e5, 8, .inl (fun _ => 0))), (a6, .inl (e6, 8, .inl (fun _ => 0))), (a7, .inl (e7, 32, .inl (fun _ => 0)))]
set_option maxHeartbeats 4000000 in
set_option maxRecDepth 100000 in
theorem kX1 (l : Launch) (dC : Nat → ClassId) (dI : Nat → Nat → Nat) (a1 sz : Nat) : Met l yX1_init (.code yX1_init cX1_init 1 none :: am_tbl) ({ frames := 2, cells := 6, slots := 72, locals := 40 }) (va_Pc [.ref a1] (fun U => U.heap.size = sz ∧ va_P (dC, dI) vwCl [(a1, .inr (1, [.int 0, .int 0, .int 0, .int 0, .int 0, .null, .null, .null, .null, .null, .null]))] U.heap ∧ va_K (dC, dI) vwCl [] U ∧ va_D (fun _ => True) [(a1, .inr (1, [.int 0, .int 0, .int 0, .int 0, .int 0, .null, .null, .null, .null, .null, .null]))])) (va_Qv (fun _ : Unit => True) (atX1 dC dI (va_A [(a1, .inr (1, [.int 0, .int 0, .int 0, .int 0, .int 0, .null, .null, .null, .null, .null, .null]))] sz) a1) (va_A [(a1, .inr (1, [.int 0, .int 0, .int 0, .int 0, .int 0, .null, .null, .null, .null, .null, .null]))] sz)) 6 72 (va_A [(a1, .inr (1, [.int 0, .int 0, .int 0, .int 0, .int 0, .null, .null, .null, .null, .null, .null]))] sz) := by
  refine Met.ofW (cc := cX1_init) (maxL := 1) (ret := none) (by decide) rfl ?_
  intro p e s m args below meth c s₁ B hml hv
  obtain ⟨rfl, hsz, hP, hK, hD0⟩ := hv
  have hx := B.exec
  have hb := B.bytes
  have hr := B.returns
  have hts0 := atoms_spec (ws := .code yX1_init cX1_init 1 none :: am_tbl) B.pre
  have hts : ∀ w ∈ am_tbl, w.before _ s = true := fun w h => hts0 w (List.mem_cons_of_mem _ h)
  have hown : s.vm.findClass RX1 = some m.cls := findClass_of_methodNamed B.named
  have hlocks := B.notSynchronized
  have hin : meth.name = "<init>" := (name_of_methodNamed B.named B.method).1
  subst hsz
  have hD := hD0.self (sz := s.heap.size)
  generalize hAe : va_A [(a1, .inr (1, [.int 0, .int 0, .int 0, .int 0, .int 0, .null, .null, .null, .null, .null, .null]))] s.heap.size = A at hD ⊢
  have hA : ∀ q : Nat, s.heap.size ≤ q → A q := fun q h => by rw [← hAe]; exact Or.inr h
  have hS : va_S A s.heap s.heap [] := va_S.rf
  have hl := lv_entry ([.ref a1]) (n := 1) (Nat.le_of_ble_eq_true rfl)
  rw [lg_entry_eq]
  generalize (lg_sl ([.ref a1]) ++ List.replicate (1 - (lg_sl ([.ref a1])).length) Slot.unset).toArray = ls at hl ⊢
  have hl : lv_has ls 1 [(0, .ref a1)] := hl
  refine lv_aload_n hx hb dX1_init_0 rfl (lv_at hl 0 rfl) ?_
  refine W.objInit hx hb hown (hts (.methodLink RX1 3 objectInit) (am_at 25 (by decide +kernel) (by decide +kernel))) (hts (.instanceMethod objectInit) (am_at 18 (by decide +kernel) (by decide +kernel))) (hts (.code objectInit ⟨#[0xb1]⟩ 1 none) (am_at 19 (by decide +kernel) (by decide +kernel))) rfl (by rw [hml]; exact hl.1) rfl dX1_init_1 (Nat.le_of_ble_eq_true rfl) (Nat.le_of_ble_eq_true rfl) ?_
  refine W.eq (g2 := F0 m 4 ls []) rfl ?_
  refine lv_aload_n hx hb dX1_init_4 rfl (lv_at hl 0 rfl) ?_
  refine lv_bipush (v := 100) hx hb dX1_init_5 rfl ?_
  refine va_put (D := (dC, dI)) (ci := 1) (v := .int 100) (ty := .int) (C := RX1) (T := TX1) (N := 11) hx hb hts cl1.2.1 tyX1 cl1.2.2.1 cl1.2.2.2 hown hK hP hD hS 0 rfl cl1.1 0 (by decide) (hts (.fieldLink RX1 9 (TX1 0).1 (TX1 0).2.1 (TX1 0).2.2.1) (am_at 26 (by decide +kernel) (by decide +kernel))) (fun _ h9 => h9) rfl (cl1.2.2.1 0 (by decide)) rfl rfl (Nat.le_of_ble_eq_true rfl) dX1_init_7 (fun H locs hP hD hS => ?_)
  have hP : va_P (dC, dI) vwCl [(a1, .inr (1, [.int 100, .int 0, .int 0, .int 0, .int 0, .null, .null, .null, .null, .null, .null]))] H := hP
  have hD : va_D A [(a1, .inr (1, [.int 100, .int 0, .int 0, .int 0, .int 0, .null, .null, .null, .null, .null, .null]))] := hD
  refine lv_aload_n hx hb dX1_init_10 rfl (lv_at hl 0 rfl) ?_
  refine lv_bipush (v := 100) hx hb dX1_init_11 rfl ?_
  refine va_put (D := (dC, dI)) (ci := 1) (v := .int 100) (ty := .int) (C := RX1) (T := TX1) (N := 11) hx hb hts cl1.2.1 tyX1 cl1.2.2.1 cl1.2.2.2 hown hK hP hD hS 0 rfl cl1.1 1 (by decide) (hts (.fieldLink RX1 15 (TX1 1).1 (TX1 1).2.1 (TX1 1).2.2.1) (am_at 30 (by decide +kernel) (by decide +kernel))) (fun _ h9 => h9) rfl (cl1.2.2.1 1 (by decide)) rfl rfl (Nat.le_of_ble_eq_true rfl) dX1_init_13 (fun H locs hP hD hS => ?_)
  have hP : va_P (dC, dI) vwCl [(a1, .inr (1, [.int 100, .int 100, .int 0, .int 0, .int 0, .null, .null, .null, .null, .null, .null]))] H := hP
  have hD : va_D A [(a1, .inr (1, [.int 100, .int 100, .int 0, .int 0, .int 0, .null, .null, .null, .null, .null, .null]))] := hD
  refine lv_aload_n hx hb dX1_init_16 rfl (lv_at hl 0 rfl) ?_
  refine lv_bipush (v := 10) hx hb dX1_init_17 rfl ?_
  refine va_put (D := (dC, dI)) (ci := 1) (v := .int 10) (ty := .int) (C := RX1) (T := TX1) (N := 11) hx hb hts cl1.2.1 tyX1 cl1.2.2.1 cl1.2.2.2 hown hK hP hD hS 0 rfl cl1.1 2 (by decide) (hts (.fieldLink RX1 18 (TX1 2).1 (TX1 2).2.1 (TX1 2).2.2.1) (am_at 34 (by decide +kernel) (by decide +kernel))) (fun _ h9 => h9) rfl (cl1.2.2.1 2 (by decide)) rfl rfl (Nat.le_of_ble_eq_true rfl) dX1_init_19 (fun H locs hP hD hS => ?_)
  have hP : va_P (dC, dI) vwCl [(a1, .inr (1, [.int 100, .int 100, .int 10, .int 0, .int 0, .null, .null, .null, .null, .null, .null]))] H := hP
  have hD : va_D A [(a1, .inr (1, [.int 100, .int 100, .int 10, .int 0, .int 0, .null, .null, .null, .null, .null, .null]))] := hD
  refine lv_aload_n hx hb dX1_init_22 rfl (lv_at hl 0 rfl) ?_
  refine lv_iconst (v := 0) hx hb dX1_init_23 rfl ?_
  refine va_put (D := (dC, dI)) (ci := 1) (v := .int 0) (ty := .int) (C := RX1) (T := TX1) (N := 11) hx hb hts cl1.2.1 tyX1 cl1.2.2.1 cl1.2.2.2 hown hK hP hD hS 0 rfl cl1.1 3 (by decide) (hts (.fieldLink RX1 21 (TX1 3).1 (TX1 3).2.1 (TX1 3).2.2.1) (am_at 38 (by decide +kernel) (by decide +kernel))) (fun _ h9 => h9) rfl (cl1.2.2.1 3 (by decide)) rfl rfl (Nat.le_of_ble_eq_true rfl) dX1_init_24 (fun H locs hP hD hS => ?_)
  have hP : va_P (dC, dI) vwCl [(a1, .inr (1, [.int 100, .int 100, .int 10, .int 0, .int 0, .null, .null, .null, .null, .null, .null]))] H := hP
  have hD : va_D A [(a1, .inr (1, [.int 100, .int 100, .int 10, .int 0, .int 0, .null, .null, .null, .null, .null, .null]))] := hD
  refine lv_aload_n hx hb dX1_init_27 rfl (lv_at hl 0 rfl) ?_
  refine lv_iconst (v := 0) hx hb dX1_init_28 rfl ?_
  refine va_put (D := (dC, dI)) (ci := 1) (v := .int 0) (ty := .int) (C := RX1) (T := TX1) (N := 11) hx hb hts cl1.2.1 tyX1 cl1.2.2.1 cl1.2.2.2 hown hK hP hD hS 0 rfl cl1.1 4 (by decide) (hts (.fieldLink RX1 24 (TX1 4).1 (TX1 4).2.1 (TX1 4).2.2.1) (am_at 41 (by decide +kernel) (by decide +kernel))) (fun _ h9 => h9) rfl (cl1.2.2.1 4 (by decide)) rfl rfl (Nat.le_of_ble_eq_true rfl) dX1_init_29 (fun H locs hP hD hS => ?_)
  have hP : va_P (dC, dI) vwCl [(a1, .inr (1, [.int 100, .int 100, .int 10, .int 0, .int 0, .null, .null, .null, .null, .null, .null]))] H := hP
  have hD : va_D A [(a1, .inr (1, [.int 100, .int 100, .int 10, .int 0, .int 0, .null, .null, .null, .null, .null, .null]))] := hD
  refine lv_aload_n hx hb dX1_init_32 rfl (lv_at hl 0 rfl) ?_
  refine lv_bipush (v := 8) hx hb dX1_init_33 rfl ?_
  refine va_newa (atype := .int) hx hb (hts (.arrayClass .int) (am_at 92 (by decide +kernel) (by decide +kernel))) (ty := .int) rfl hK hP hD hS hA (N' := 8) (a0 := (8, .inl (fun _ => 0))) (na_int 8) (by decide) rfl (by decide +kernel) (Nat.le_of_ble_eq_true rfl) (Nat.le_of_ble_eq_true rfl) dX1_init_35 (fun a2 e2 H hK hP hD hS => ?_)
  have hP : va_P (dC, dI) vwCl [(a1, .inr (1, [.int 100, .int 100, .int 10, .int 0, .int 0, .null, .null, .null, .null, .null, .null])), (a2, .inl (e2, 8, .inl (fun _ => 0)))] H := hP
  have hD : va_D A [(a1, .inr (1, [.int 100, .int 100, .int 10, .int 0, .int 0, .null, .null, .null, .null, .null, .null])), (a2, .inl (e2, 8, .inl (fun _ => 0)))] := hD
  have hK : va_K (dC, dI) vwCl [(e2, .int)] s := hK
  refine va_putF (D := (dC, dI)) (ci := 1) (v := .ref a2) (ty := tyX1 5) (C := RX1) (T := TX1) (N := 11) hx hb hts cl1.2.1 tyX1 cl1.2.2.1 cl1.2.2.2 hown hK hP hD hS 0 rfl cl1.1 5 (by decide) (hts (.fieldLink RX1 27 (TX1 5).1 (TX1 5).2.1 (TX1 5).2.2.1) (am_at 48 (by decide +kernel) (by decide +kernel))) (fun _ h9 => h9) rfl hin rfl (cl1.2.2.1 5 (by decide)) rfl rfl (Nat.le_of_ble_eq_true rfl) dX1_init_37 (fun H locs hP hD hS => ?_)
  have hP : va_P (dC, dI) vwCl [(a1, .inr (1, [.int 100, .int 100, .int 10, .int 0, .int 0, .ref a2, .null, .null, .null, .null, .null])), (a2, .inl (e2, 8, .inl (fun _ => 0)))] H := hP
  have hD : va_D A [(a1, .inr (1, [.int 100, .int 100, .int 10, .int 0, .int 0, .ref a2, .null, .null, .null, .null, .null])), (a2, .inl (e2, 8, .inl (fun _ => 0)))] := hD
  refine lv_aload_n hx hb dX1_init_40 rfl (lv_at hl 0 rfl) ?_
  refine lv_bipush (v := 8) hx hb dX1_init_41 rfl ?_
  refine va_newa (atype := .int) hx hb (hts (.arrayClass .int) (am_at 92 (by decide +kernel) (by decide +kernel))) (ty := .int) rfl hK hP hD hS hA (N' := 8) (a0 := (8, .inl (fun _ => 0))) (na_int 8) (by decide) rfl (by decide +kernel) (Nat.le_of_ble_eq_true rfl) (Nat.le_of_ble_eq_true rfl) dX1_init_43 (fun a3 e3 H hK hP hD hS => ?_)
  have hP : va_P (dC, dI) vwCl [(a1, .inr (1, [.int 100, .int 100, .int 10, .int 0, .int 0, .ref a2, .null, .null, .null, .null, .null])), (a2, .inl (e2, 8, .inl (fun _ => 0))), (a3, .inl (e3, 8, .inl (fun _ => 0)))] H := hP
  have hD : va_D A [(a1, .inr (1, [.int 100, .int 100, .int 10, .int 0, .int 0, .ref a2, .null, .null, .null, .null, .null])), (a2, .inl (e2, 8, .inl (fun _ => 0))), (a3, .inl (e3, 8, .inl (fun _ => 0)))] := hD
  have hK : va_K (dC, dI) vwCl [(e2, .int), (e3, .int)] s := hK
  refine va_putF (D := (dC, dI)) (ci := 1) (v := .ref a3) (ty := tyX1 6) (C := RX1) (T := TX1) (N := 11) hx hb hts cl1.2.1 tyX1 cl1.2.2.1 cl1.2.2.2 hown hK hP hD hS 0 rfl cl1.1 6 (by decide) (hts (.fieldLink RX1 31 (TX1 6).1 (TX1 6).2.1 (TX1 6).2.2.1) (am_at 52 (by decide +kernel) (by decide +kernel))) (fun _ h9 => h9) rfl hin rfl (cl1.2.2.1 6 (by decide)) rfl rfl (Nat.le_of_ble_eq_true rfl) dX1_init_45 (fun H locs hP hD hS => ?_)
  have hP : va_P (dC, dI) vwCl [(a1, .inr (1, [.int 100, .int 100, .int 10, .int 0, .int 0, .ref a2, .ref a3, .null, .null, .null, .null])), (a2, .inl (e2, 8, .inl (fun _ => 0))), (a3, .inl (e3, 8, .inl (fun _ => 0)))] H := hP
  have hD : va_D A [(a1, .inr (1, [.int 100, .int 100, .int 10, .int 0, .int 0, .ref a2, .ref a3, .null, .null, .null, .null])), (a2, .inl (e2, 8, .inl (fun _ => 0))), (a3, .inl (e3, 8, .inl (fun _ => 0)))] := hD
  refine lv_aload_n hx hb dX1_init_48 rfl (lv_at hl 0 rfl) ?_
  refine lv_bipush (v := 8) hx hb dX1_init_49 rfl ?_
  refine va_newa (atype := .int) hx hb (hts (.arrayClass .int) (am_at 92 (by decide +kernel) (by decide +kernel))) (ty := .int) rfl hK hP hD hS hA (N' := 8) (a0 := (8, .inl (fun _ => 0))) (na_int 8) (by decide) rfl (by decide +kernel) (Nat.le_of_ble_eq_true rfl) (Nat.le_of_ble_eq_true rfl) dX1_init_51 (fun a4 e4 H hK hP hD hS => ?_)
  have hP : va_P (dC, dI) vwCl [(a1, .inr (1, [.int 100, .int 100, .int 10, .int 0, .int 0, .ref a2, .ref a3, .null, .null, .null, .null])), (a2, .inl (e2, 8, .inl (fun _ => 0))), (a3, .inl (e3, 8, .inl (fun _ => 0))), (a4, .inl (e4, 8, .inl (fun _ => 0)))] H := hP
  have hD : va_D A [(a1, .inr (1, [.int 100, .int 100, .int 10, .int 0, .int 0, .ref a2, .ref a3, .null, .null, .null, .null])), (a2, .inl (e2, 8, .inl (fun _ => 0))), (a3, .inl (e3, 8, .inl (fun _ => 0))), (a4, .inl (e4, 8, .inl (fun _ => 0)))] := hD
  have hK : va_K (dC, dI) vwCl [(e2, .int), (e3, .int), (e4, .int)] s := hK
  refine va_putF (D := (dC, dI)) (ci := 1) (v := .ref a4) (ty := tyX1 7) (C := RX1) (T := TX1) (N := 11) hx hb hts cl1.2.1 tyX1 cl1.2.2.1 cl1.2.2.2 hown hK hP hD hS 0 rfl cl1.1 7 (by decide) (hts (.fieldLink RX1 34 (TX1 7).1 (TX1 7).2.1 (TX1 7).2.2.1) (am_at 56 (by decide +kernel) (by decide +kernel))) (fun _ h9 => h9) rfl hin rfl (cl1.2.2.1 7 (by decide)) rfl rfl (Nat.le_of_ble_eq_true rfl) dX1_init_53 (fun H locs hP hD hS => ?_)
  have hP : va_P (dC, dI) vwCl [(a1, .inr (1, [.int 100, .int 100, .int 10, .int 0, .int 0, .ref a2, .ref a3, .ref a4, .null, .null, .null])), (a2, .inl (e2, 8, .inl (fun _ => 0))), (a3, .inl (e3, 8, .inl (fun _ => 0))), (a4, .inl (e4, 8, .inl (fun _ => 0)))] H := hP
  have hD : va_D A [(a1, .inr (1, [.int 100, .int 100, .int 10, .int 0, .int 0, .ref a2, .ref a3, .ref a4, .null, .null, .null])), (a2, .inl (e2, 8, .inl (fun _ => 0))), (a3, .inl (e3, 8, .inl (fun _ => 0))), (a4, .inl (e4, 8, .inl (fun _ => 0)))] := hD
  refine lv_aload_n hx hb dX1_init_56 rfl (lv_at hl 0 rfl) ?_
  refine lv_bipush (v := 8) hx hb dX1_init_57 rfl ?_
  refine va_newa (atype := .int) hx hb (hts (.arrayClass .int) (am_at 92 (by decide +kernel) (by decide +kernel))) (ty := .int) rfl hK hP hD hS hA (N' := 8) (a0 := (8, .inl (fun _ => 0))) (na_int 8) (by decide) rfl (by decide +kernel) (Nat.le_of_ble_eq_true rfl) (Nat.le_of_ble_eq_true rfl) dX1_init_59 (fun a5 e5 H hK hP hD hS => ?_)
  have hP : va_P (dC, dI) vwCl [(a1, .inr (1, [.int 100, .int 100, .int 10, .int 0, .int 0, .ref a2, .ref a3, .ref a4, .null, .null, .null])), (a2, .inl (e2, 8, .inl (fun _ => 0))), (a3, .inl (e3, 8, .inl (fun _ => 0))), (a4, .inl (e4, 8, .inl (fun _ => 0))), (a5, .inl (e5, 8, .inl (fun _ => 0)))] H := hP
  have hD : va_D A [(a1, .inr (1, [.int 100, .int 100, .int 10, .int 0, .int 0, .ref a2, .ref a3, .ref a4, .null, .null, .null])), (a2, .inl (e2, 8, .inl (fun _ => 0))), (a3, .inl (e3, 8, .inl (fun _ => 0))), (a4, .inl (e4, 8, .inl (fun _ => 0))), (a5, .inl (e5, 8, .inl (fun _ => 0)))] := hD
  have hK : va_K (dC, dI) vwCl [(e2, .int), (e3, .int), (e4, .int), (e5, .int)] s := hK
  refine va_putF (D := (dC, dI)) (ci := 1) (v := .ref a5) (ty := tyX1 8) (C := RX1) (T := TX1) (N := 11) hx hb hts cl1.2.1 tyX1 cl1.2.2.1 cl1.2.2.2 hown hK hP hD hS 0 rfl cl1.1 8 (by decide) (hts (.fieldLink RX1 37 (TX1 8).1 (TX1 8).2.1 (TX1 8).2.2.1) (am_at 59 (by decide +kernel) (by decide +kernel))) (fun _ h9 => h9) rfl hin rfl (cl1.2.2.1 8 (by decide)) rfl rfl (Nat.le_of_ble_eq_true rfl) dX1_init_61 (fun H locs hP hD hS => ?_)
  have hP : va_P (dC, dI) vwCl [(a1, .inr (1, [.int 100, .int 100, .int 10, .int 0, .int 0, .ref a2, .ref a3, .ref a4, .ref a5, .null, .null])), (a2, .inl (e2, 8, .inl (fun _ => 0))), (a3, .inl (e3, 8, .inl (fun _ => 0))), (a4, .inl (e4, 8, .inl (fun _ => 0))), (a5, .inl (e5, 8, .inl (fun _ => 0)))] H := hP
  have hD : va_D A [(a1, .inr (1, [.int 100, .int 100, .int 10, .int 0, .int 0, .ref a2, .ref a3, .ref a4, .ref a5, .null, .null])), (a2, .inl (e2, 8, .inl (fun _ => 0))), (a3, .inl (e3, 8, .inl (fun _ => 0))), (a4, .inl (e4, 8, .inl (fun _ => 0))), (a5, .inl (e5, 8, .inl (fun _ => 0)))] := hD
  refine lv_aload_n hx hb dX1_init_64 rfl (lv_at hl 0 rfl) ?_
  refine lv_bipush (v := 8) hx hb dX1_init_65 rfl ?_
  refine va_newa (atype := .int) hx hb (hts (.arrayClass .int) (am_at 92 (by decide +kernel) (by decide +kernel))) (ty := .int) rfl hK hP hD hS hA (N' := 8) (a0 := (8, .inl (fun _ => 0))) (na_int 8) (by decide) rfl (by decide +kernel) (Nat.le_of_ble_eq_true rfl) (Nat.le_of_ble_eq_true rfl) dX1_init_67 (fun a6 e6 H hK hP hD hS => ?_)
  have hP : va_P (dC, dI) vwCl [(a1, .inr (1, [.int 100, .int 100, .int 10, .int 0, .int 0, .ref a2, .ref a3, .ref a4, .ref a5, .null, .null])), (a2, .inl (e2, 8, .inl (fun _ => 0))), (a3, .inl (e3, 8, .inl (fun _ => 0))), (a4, .inl (e4, 8, .inl (fun _ => 0))), (a5, .inl (e5, 8, .inl (fun _ => 0))), (a6, .inl (e6, 8, .inl (fun _ => 0)))] H := hP
  have hD : va_D A [(a1, .inr (1, [.int 100, .int 100, .int 10, .int 0, .int 0, .ref a2, .ref a3, .ref a4, .ref a5, .null, .null])), (a2, .inl (e2, 8, .inl (fun _ => 0))), (a3, .inl (e3, 8, .inl (fun _ => 0))), (a4, .inl (e4, 8, .inl (fun _ => 0))), (a5, .inl (e5, 8, .inl (fun _ => 0))), (a6, .inl (e6, 8, .inl (fun _ => 0)))] := hD
  have hK : va_K (dC, dI) vwCl [(e2, .int), (e3, .int), (e4, .int), (e5, .int), (e6, .int)] s := hK
  refine va_putF (D := (dC, dI)) (ci := 1) (v := .ref a6) (ty := tyX1 9) (C := RX1) (T := TX1) (N := 11) hx hb hts cl1.2.1 tyX1 cl1.2.2.1 cl1.2.2.2 hown hK hP hD hS 0 rfl cl1.1 9 (by decide) (hts (.fieldLink RX1 40 (TX1 9).1 (TX1 9).2.1 (TX1 9).2.2.1) (am_at 62 (by decide +kernel) (by decide +kernel))) (fun _ h9 => h9) rfl hin rfl (cl1.2.2.1 9 (by decide)) rfl rfl (Nat.le_of_ble_eq_true rfl) dX1_init_69 (fun H locs hP hD hS => ?_)
  have hP : va_P (dC, dI) vwCl [(a1, .inr (1, [.int 100, .int 100, .int 10, .int 0, .int 0, .ref a2, .ref a3, .ref a4, .ref a5, .ref a6, .null])), (a2, .inl (e2, 8, .inl (fun _ => 0))), (a3, .inl (e3, 8, .inl (fun _ => 0))), (a4, .inl (e4, 8, .inl (fun _ => 0))), (a5, .inl (e5, 8, .inl (fun _ => 0))), (a6, .inl (e6, 8, .inl (fun _ => 0)))] H := hP
  have hD : va_D A [(a1, .inr (1, [.int 100, .int 100, .int 10, .int 0, .int 0, .ref a2, .ref a3, .ref a4, .ref a5, .ref a6, .null])), (a2, .inl (e2, 8, .inl (fun _ => 0))), (a3, .inl (e3, 8, .inl (fun _ => 0))), (a4, .inl (e4, 8, .inl (fun _ => 0))), (a5, .inl (e5, 8, .inl (fun _ => 0))), (a6, .inl (e6, 8, .inl (fun _ => 0)))] := hD
  refine lv_aload_n hx hb dX1_init_72 rfl (lv_at hl 0 rfl) ?_
  refine lv_bipush (v := 32) hx hb dX1_init_73 rfl ?_
  refine va_newa (atype := .boolean) hx hb (hts (.arrayClass .boolean) (am_at 93 (by decide +kernel) (by decide +kernel))) (ty := .boolean) rfl hK hP hD hS hA (N' := 32) (a0 := (32, .inl (fun _ => 0))) (na_boolean 32) (by decide) rfl (by decide +kernel) (Nat.le_of_ble_eq_true rfl) (Nat.le_of_ble_eq_true rfl) dX1_init_75 (fun a7 e7 H hK hP hD hS => ?_)
  have hP : va_P (dC, dI) vwCl [(a1, .inr (1, [.int 100, .int 100, .int 10, .int 0, .int 0, .ref a2, .ref a3, .ref a4, .ref a5, .ref a6, .null])), (a2, .inl (e2, 8, .inl (fun _ => 0))), (a3, .inl (e3, 8, .inl (fun _ => 0))), (a4, .inl (e4, 8, .inl (fun _ => 0))), (a5, .inl (e5, 8, .inl (fun _ => 0))), (a6, .inl (e6, 8, .inl (fun _ => 0))), (a7, .inl (e7, 32, .inl (fun _ => 0)))] H := hP
  have hD : va_D A [(a1, .inr (1, [.int 100, .int 100, .int 10, .int 0, .int 0, .ref a2, .ref a3, .ref a4, .ref a5, .ref a6, .null])), (a2, .inl (e2, 8, .inl (fun _ => 0))), (a3, .inl (e3, 8, .inl (fun _ => 0))), (a4, .inl (e4, 8, .inl (fun _ => 0))), (a5, .inl (e5, 8, .inl (fun _ => 0))), (a6, .inl (e6, 8, .inl (fun _ => 0))), (a7, .inl (e7, 32, .inl (fun _ => 0)))] := hD
  have hK : va_K (dC, dI) vwCl [(e2, .int), (e3, .int), (e4, .int), (e5, .int), (e6, .int), (e7, .boolean)] s := hK
  refine va_putF (D := (dC, dI)) (ci := 1) (v := .ref a7) (ty := tyX1 10) (C := RX1) (T := TX1) (N := 11) hx hb hts cl1.2.1 tyX1 cl1.2.2.1 cl1.2.2.2 hown hK hP hD hS 0 rfl cl1.1 10 (by decide) (hts (.fieldLink RX1 43 (TX1 10).1 (TX1 10).2.1 (TX1 10).2.2.1) (am_at 66 (by decide +kernel) (by decide +kernel))) (fun _ h9 => h9) rfl hin rfl (cl1.2.2.1 10 (by decide)) rfl rfl (Nat.le_of_ble_eq_true rfl) dX1_init_77 (fun H locs hP hD hS => ?_)
  have hP : va_P (dC, dI) vwCl [(a1, .inr (1, [.int 100, .int 100, .int 10, .int 0, .int 0, .ref a2, .ref a3, .ref a4, .ref a5, .ref a6, .ref a7])), (a2, .inl (e2, 8, .inl (fun _ => 0))), (a3, .inl (e3, 8, .inl (fun _ => 0))), (a4, .inl (e4, 8, .inl (fun _ => 0))), (a5, .inl (e5, 8, .inl (fun _ => 0))), (a6, .inl (e6, 8, .inl (fun _ => 0))), (a7, .inl (e7, 32, .inl (fun _ => 0)))] H := hP
  have hD : va_D A [(a1, .inr (1, [.int 100, .int 100, .int 10, .int 0, .int 0, .ref a2, .ref a3, .ref a4, .ref a5, .ref a6, .ref a7])), (a2, .inl (e2, 8, .inl (fun _ => 0))), (a3, .inl (e3, 8, .inl (fun _ => 0))), (a4, .inl (e4, 8, .inl (fun _ => 0))), (a5, .inl (e5, 8, .inl (fun _ => 0))), (a6, .inl (e6, 8, .inl (fun _ => 0))), (a7, .inl (e7, 32, .inl (fun _ => 0)))] := hD
  refine W.widen (k := 6) (n := 72) (Nat.le_of_ble_eq_true rfl) (Nat.le_of_ble_eq_true rfl) ?_
  exact W.vret hx hb hr (fun t ht hW => ⟨⟨(), rfl, trivial, a2, a3, a4, a5, a6, a7, e2, e3, e4, e5, e6, e7, by rw [ht]; exact hP, va_K.moved hW.alike hK, hD⟩, hS.F ht⟩) hS.2.2 dX1_init_80
