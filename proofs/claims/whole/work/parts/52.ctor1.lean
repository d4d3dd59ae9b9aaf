/-- what MapNames$Levels makes -/
def atX4 (dC : Nat → ClassId) (dI : Nat → Nat → Nat) (A : Nat → Prop) (a22 r1 r2 : Nat) : Unit → State → Prop := fun _ t => ∃ (a23 a24 a25 : Nat) (e23 e24 e25 : ClassId), va_P (dC, dI) vwCl [(a22, .inr (4, [.ref r1, .ref r2, .ref a23, .ref a24, .ref a25])), (a23, .inl (e23, 8, .inl (fun _ => 0))), (a24, .inl (e24, 8, .inl (fun _ => 0))), (a25, .inl (e25, 8, .inl (fun _ => 0)))] t.heap ∧ va_K (dC, dI) vwCl [(e23, .int), (e24, .int), (e25, .int)] t ∧ va_D A [(a22, .inr (4, [.ref r1, .ref r2, .ref a23, .ref a24, .ref a25])), (a23, .inl (e23, 8, .inl (fun _ => 0))), (a24, .inl (e24, 8, .inl (fun _ => 0))), (a25, .inl (e25, 8, .inl (fun _ => 0)))]
set_option maxHeartbeats 4000000 in
set_option maxRecDepth 100000 in
theorem kX4 (l : Launch) (dC : Nat → ClassId) (dI : Nat → Nat → Nat) (a22 r1 r2 sz : Nat) : Met l yX4_init (.code yX4_init cX4_init 3 none :: am_tbl) ({ frames := 2, cells := 3, slots := 24, locals := 40 }) (va_Pc [.ref a22, .ref r1, .ref r2] (fun U => U.heap.size = sz ∧ va_P (dC, dI) vwCl [(a22, .inr (4, [.null, .null, .null, .null, .null]))] U.heap ∧ va_K (dC, dI) vwCl [] U ∧ va_D (fun _ => True) [(a22, .inr (4, [.null, .null, .null, .null, .null]))])) (va_Qv (fun _ : Unit => True) (atX4 dC dI (va_A [(a22, .inr (4, [.null, .null, .null, .null, .null]))] sz) a22 r1 r2) (va_A [(a22, .inr (4, [.null, .null, .null, .null, .null]))] sz)) 3 24 (va_A [(a22, .inr (4, [.null, .null, .null, .null, .null]))] sz) := by
  refine Met.ofW (cc := cX4_init) (maxL := 3) (ret := none) (by decide) rfl ?_
  intro p e s m args below meth c s₁ B hml hv
  obtain ⟨rfl, hsz, hP, hK, hD0⟩ := hv
  have hx := B.exec
  have hb := B.bytes
  have hr := B.returns
  have hts0 := atoms_spec (ws := .code yX4_init cX4_init 3 none :: am_tbl) B.pre
  have hts : ∀ w ∈ am_tbl, w.before _ s = true := fun w h => hts0 w (List.mem_cons_of_mem _ h)
  have hown : s.vm.findClass RX4 = some m.cls := findClass_of_methodNamed B.named
  have hlocks := B.notSynchronized
  have hin : meth.name = "<init>" := (name_of_methodNamed B.named B.method).1
  subst hsz
  have hD := hD0.self (sz := s.heap.size)
  generalize hAe : va_A [(a22, .inr (4, [.null, .null, .null, .null, .null]))] s.heap.size = A at hD ⊢
  have hA : ∀ q : Nat, s.heap.size ≤ q → A q := fun q h => by rw [← hAe]; exact Or.inr h
  have hS : va_S A s.heap s.heap [] := va_S.rf
  have hl := lv_entry ([.ref a22, .ref r1, .ref r2]) (n := 3) (Nat.le_of_ble_eq_true rfl)
  rw [lg_entry_eq]
  generalize (lg_sl ([.ref a22, .ref r1, .ref r2]) ++ List.replicate (3 - (lg_sl ([.ref a22, .ref r1, .ref r2])).length) Slot.unset).toArray = ls at hl ⊢
  have hl : lv_has ls 3 [(0, .ref a22), (1, .ref r1), (2, .ref r2)] := hl
  refine lv_aload_n hx hb dX4_init_0 rfl (lv_at hl 0 rfl) ?_
  refine W.objInit hx hb hown (hts (.methodLink RX4 3 objectInit) (am_at 183 (by decide +kernel) (by decide +kernel))) (hts (.instanceMethod objectInit) (am_at 18 (by decide +kernel) (by decide +kernel))) (hts (.code objectInit ⟨#[0xb1]⟩ 1 none) (am_at 19 (by decide +kernel) (by decide +kernel))) rfl (by rw [hml]; exact hl.1) rfl dX4_init_1 (Nat.le_of_ble_eq_true rfl) (Nat.le_of_ble_eq_true rfl) ?_
  refine W.eq (g2 := F0 m 4 ls []) rfl ?_
  refine lv_aload_n hx hb dX4_init_4 rfl (lv_at hl 0 rfl) ?_
  refine lv_bipush (v := 8) hx hb dX4_init_5 rfl ?_
  refine va_newa (atype := .int) hx hb (hts (.arrayClass .int) (am_at 92 (by decide +kernel) (by decide +kernel))) (ty := .int) rfl hK hP hD hS hA (N' := 8) (a0 := (8, .inl (fun _ => 0))) (na_int 8) (by decide) rfl (by decide +kernel) (Nat.le_of_ble_eq_true rfl) (Nat.le_of_ble_eq_true rfl) dX4_init_7 (fun a23 e23 H hK hP hD hS => ?_)
  have hP : va_P (dC, dI) vwCl [(a22, .inr (4, [.null, .null, .null, .null, .null])), (a23, .inl (e23, 8, .inl (fun _ => 0)))] H := hP
  have hD : va_D A [(a22, .inr (4, [.null, .null, .null, .null, .null])), (a23, .inl (e23, 8, .inl (fun _ => 0)))] := hD
  have hK : va_K (dC, dI) vwCl [(e23, .int)] s := hK
  refine va_putF (D := (dC, dI)) (ci := 4) (v := .ref a23) (ty := tyX4 2) (C := RX4) (T := TX4) (N := 5) hx hb hts cl4.2.1 tyX4 cl4.2.2.1 cl4.2.2.2 hown hK hP hD hS 0 rfl cl4.1 2 (by decide) (hts (.fieldLink RX4 9 (TX4 2).1 (TX4 2).2.1 (TX4 2).2.2.1) (am_at 186 (by decide +kernel) (by decide +kernel))) (fun _ h9 => h9) rfl hin rfl (cl4.2.2.1 2 (by decide)) rfl rfl (Nat.le_of_ble_eq_true rfl) dX4_init_9 (fun H locs hP hD hS => ?_)
  have hP : va_P (dC, dI) vwCl [(a22, .inr (4, [.null, .null, .ref a23, .null, .null])), (a23, .inl (e23, 8, .inl (fun _ => 0)))] H := hP
  have hD : va_D A [(a22, .inr (4, [.null, .null, .ref a23, .null, .null])), (a23, .inl (e23, 8, .inl (fun _ => 0)))] := hD
  refine lv_aload_n hx hb dX4_init_12 rfl (lv_at hl 0 rfl) ?_
  refine lv_bipush (v := 8) hx hb dX4_init_13 rfl ?_
  refine va_newa (atype := .int) hx hb (hts (.arrayClass .int) (am_at 92 (by decide +kernel) (by decide +kernel))) (ty := .int) rfl hK hP hD hS hA (N' := 8) (a0 := (8, .inl (fun _ => 0))) (na_int 8) (by decide) rfl (by decide +kernel) (Nat.le_of_ble_eq_true rfl) (Nat.le_of_ble_eq_true rfl) dX4_init_15 (fun a24 e24 H hK hP hD hS => ?_)
  have hP : va_P (dC, dI) vwCl [(a22, .inr (4, [.null, .null, .ref a23, .null, .null])), (a23, .inl (e23, 8, .inl (fun _ => 0))), (a24, .inl (e24, 8, .inl (fun _ => 0)))] H := hP
  have hD : va_D A [(a22, .inr (4, [.null, .null, .ref a23, .null, .null])), (a23, .inl (e23, 8, .inl (fun _ => 0))), (a24, .inl (e24, 8, .inl (fun _ => 0)))] := hD
  have hK : va_K (dC, dI) vwCl [(e23, .int), (e24, .int)] s := hK
  refine va_putF (D := (dC, dI)) (ci := 4) (v := .ref a24) (ty := tyX4 3) (C := RX4) (T := TX4) (N := 5) hx hb hts cl4.2.1 tyX4 cl4.2.2.1 cl4.2.2.2 hown hK hP hD hS 0 rfl cl4.1 3 (by decide) (hts (.fieldLink RX4 15 (TX4 3).1 (TX4 3).2.1 (TX4 3).2.2.1) (am_at 188 (by decide +kernel) (by decide +kernel))) (fun _ h9 => h9) rfl hin rfl (cl4.2.2.1 3 (by decide)) rfl rfl (Nat.le_of_ble_eq_true rfl) dX4_init_17 (fun H locs hP hD hS => ?_)
  have hP : va_P (dC, dI) vwCl [(a22, .inr (4, [.null, .null, .ref a23, .ref a24, .null])), (a23, .inl (e23, 8, .inl (fun _ => 0))), (a24, .inl (e24, 8, .inl (fun _ => 0)))] H := hP
  have hD : va_D A [(a22, .inr (4, [.null, .null, .ref a23, .ref a24, .null])), (a23, .inl (e23, 8, .inl (fun _ => 0))), (a24, .inl (e24, 8, .inl (fun _ => 0)))] := hD
  refine lv_aload_n hx hb dX4_init_20 rfl (lv_at hl 0 rfl) ?_
  refine lv_bipush (v := 8) hx hb dX4_init_21 rfl ?_
  refine va_newa (atype := .int) hx hb (hts (.arrayClass .int) (am_at 92 (by decide +kernel) (by decide +kernel))) (ty := .int) rfl hK hP hD hS hA (N' := 8) (a0 := (8, .inl (fun _ => 0))) (na_int 8) (by decide) rfl (by decide +kernel) (Nat.le_of_ble_eq_true rfl) (Nat.le_of_ble_eq_true rfl) dX4_init_23 (fun a25 e25 H hK hP hD hS => ?_)
  have hP : va_P (dC, dI) vwCl [(a22, .inr (4, [.null, .null, .ref a23, .ref a24, .null])), (a23, .inl (e23, 8, .inl (fun _ => 0))), (a24, .inl (e24, 8, .inl (fun _ => 0))), (a25, .inl (e25, 8, .inl (fun _ => 0)))] H := hP
  have hD : va_D A [(a22, .inr (4, [.null, .null, .ref a23, .ref a24, .null])), (a23, .inl (e23, 8, .inl (fun _ => 0))), (a24, .inl (e24, 8, .inl (fun _ => 0))), (a25, .inl (e25, 8, .inl (fun _ => 0)))] := hD
  have hK : va_K (dC, dI) vwCl [(e23, .int), (e24, .int), (e25, .int)] s := hK
  refine va_putF (D := (dC, dI)) (ci := 4) (v := .ref a25) (ty := tyX4 4) (C := RX4) (T := TX4) (N := 5) hx hb hts cl4.2.1 tyX4 cl4.2.2.1 cl4.2.2.2 hown hK hP hD hS 0 rfl cl4.1 4 (by decide) (hts (.fieldLink RX4 18 (TX4 4).1 (TX4 4).2.1 (TX4 4).2.2.1) (am_at 190 (by decide +kernel) (by decide +kernel))) (fun _ h9 => h9) rfl hin rfl (cl4.2.2.1 4 (by decide)) rfl rfl (Nat.le_of_ble_eq_true rfl) dX4_init_25 (fun H locs hP hD hS => ?_)
  have hP : va_P (dC, dI) vwCl [(a22, .inr (4, [.null, .null, .ref a23, .ref a24, .ref a25])), (a23, .inl (e23, 8, .inl (fun _ => 0))), (a24, .inl (e24, 8, .inl (fun _ => 0))), (a25, .inl (e25, 8, .inl (fun _ => 0)))] H := hP
  have hD : va_D A [(a22, .inr (4, [.null, .null, .ref a23, .ref a24, .ref a25])), (a23, .inl (e23, 8, .inl (fun _ => 0))), (a24, .inl (e24, 8, .inl (fun _ => 0))), (a25, .inl (e25, 8, .inl (fun _ => 0)))] := hD
  refine lv_aload_n hx hb dX4_init_28 rfl (lv_at hl 0 rfl) ?_
  refine lv_aload_n hx hb dX4_init_29 rfl (lv_at hl 1 rfl) ?_
  refine va_putF (D := (dC, dI)) (ci := 4) (v := .ref r1) (ty := tyX4 0) (C := RX4) (T := TX4) (N := 5) hx hb hts cl4.2.1 tyX4 cl4.2.2.1 cl4.2.2.2 hown hK hP hD hS 0 rfl cl4.1 0 (by decide) (hts (.fieldLink RX4 21 (TX4 0).1 (TX4 0).2.1 (TX4 0).2.2.1) (am_at 184 (by decide +kernel) (by decide +kernel))) (fun _ h9 => h9) rfl hin rfl (cl4.2.2.1 0 (by decide)) rfl rfl (Nat.le_of_ble_eq_true rfl) dX4_init_30 (fun H locs hP hD hS => ?_)
  have hP : va_P (dC, dI) vwCl [(a22, .inr (4, [.ref r1, .null, .ref a23, .ref a24, .ref a25])), (a23, .inl (e23, 8, .inl (fun _ => 0))), (a24, .inl (e24, 8, .inl (fun _ => 0))), (a25, .inl (e25, 8, .inl (fun _ => 0)))] H := hP
  have hD : va_D A [(a22, .inr (4, [.ref r1, .null, .ref a23, .ref a24, .ref a25])), (a23, .inl (e23, 8, .inl (fun _ => 0))), (a24, .inl (e24, 8, .inl (fun _ => 0))), (a25, .inl (e25, 8, .inl (fun _ => 0)))] := hD
  refine lv_aload_n hx hb dX4_init_33 rfl (lv_at hl 0 rfl) ?_
  refine lv_aload_n hx hb dX4_init_34 rfl (lv_at hl 2 rfl) ?_
  refine va_putF (D := (dC, dI)) (ci := 4) (v := .ref r2) (ty := tyX4 1) (C := RX4) (T := TX4) (N := 5) hx hb hts cl4.2.1 tyX4 cl4.2.2.1 cl4.2.2.2 hown hK hP hD hS 0 rfl cl4.1 1 (by decide) (hts (.fieldLink RX4 25 (TX4 1).1 (TX4 1).2.1 (TX4 1).2.2.1) (am_at 185 (by decide +kernel) (by decide +kernel))) (fun _ h9 => h9) rfl hin rfl (cl4.2.2.1 1 (by decide)) rfl rfl (Nat.le_of_ble_eq_true rfl) dX4_init_35 (fun H locs hP hD hS => ?_)
  have hP : va_P (dC, dI) vwCl [(a22, .inr (4, [.ref r1, .ref r2, .ref a23, .ref a24, .ref a25])), (a23, .inl (e23, 8, .inl (fun _ => 0))), (a24, .inl (e24, 8, .inl (fun _ => 0))), (a25, .inl (e25, 8, .inl (fun _ => 0)))] H := hP
  have hD : va_D A [(a22, .inr (4, [.ref r1, .ref r2, .ref a23, .ref a24, .ref a25])), (a23, .inl (e23, 8, .inl (fun _ => 0))), (a24, .inl (e24, 8, .inl (fun _ => 0))), (a25, .inl (e25, 8, .inl (fun _ => 0)))] := hD
  refine W.widen (k := 3) (n := 24) (Nat.le_of_ble_eq_true rfl) (Nat.le_of_ble_eq_true rfl) ?_
  exact W.vret hx hb hr (fun t ht hW => ⟨⟨(), rfl, trivial, a23, a24, a25, e23, e24, e25, by rw [ht]; exact hP, va_K.moved hW.alike hK, hD⟩, hS.F ht⟩) hS.2.2 dX4_init_38
