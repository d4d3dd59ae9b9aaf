/-- what MapNames$Edge makes -/
def atX2 (dC : Nat → ClassId) (dI : Nat → Nat → Nat) (A : Nat → Prop) (a26 r1 : Nat) : Unit → State → Prop := fun _ t => ∃ (a27 a28 a29 : Nat) (e27 e28 e29 : ClassId), va_P (dC, dI) vwCl [(a26, .inr (2, [.ref r1, .int 0, .ref a27, .ref a28, .ref a29, .int 0, .int 0])), (a27, .inl (e27, 6, .inl (fun _ => 0))), (a28, .inl (e28, 6, .inl (fun _ => 0))), (a29, .inl (e29, 6, .inl (fun _ => 0)))] t.heap ∧ va_K (dC, dI) vwCl [(e27, .int), (e28, .int), (e29, .int)] t ∧ va_D A [(a26, .inr (2, [.ref r1, .int 0, .ref a27, .ref a28, .ref a29, .int 0, .int 0])), (a27, .inl (e27, 6, .inl (fun _ => 0))), (a28, .inl (e28, 6, .inl (fun _ => 0))), (a29, .inl (e29, 6, .inl (fun _ => 0)))]
set_option maxHeartbeats 4000000 in
set_option maxRecDepth 100000 in
theorem kX2 (l : Launch) (dC : Nat → ClassId) (dI : Nat → Nat → Nat) (a26 r1 sz : Nat) : Met l yX2_init (.code yX2_init cX2_init 2 none :: am_tbl) ({ frames := 2, cells := 3, slots := 18, locals := 40 }) (va_Pc [.ref a26, .ref r1] (fun U => U.heap.size = sz ∧ va_P (dC, dI) vwCl [(a26, .inr (2, [.null, .int 0, .null, .null, .null, .int 0, .int 0]))] U.heap ∧ va_K (dC, dI) vwCl [] U ∧ va_D (fun _ => True) [(a26, .inr (2, [.null, .int 0, .null, .null, .null, .int 0, .int 0]))])) (va_Qv (fun _ : Unit => True) (atX2 dC dI (va_A [(a26, .inr (2, [.null, .int 0, .null, .null, .null, .int 0, .int 0]))] sz) a26 r1) (va_A [(a26, .inr (2, [.null, .int 0, .null, .null, .null, .int 0, .int 0]))] sz)) 3 18 (va_A [(a26, .inr (2, [.null, .int 0, .null, .null, .null, .int 0, .int 0]))] sz) := by
  refine Met.ofW (cc := cX2_init) (maxL := 2) (ret := none) (by decide) rfl ?_
  intro p e s m args below meth c s₁ B hml hv
  obtain ⟨rfl, hsz, hP, hK, hD0⟩ := hv
  have hx := B.exec
  have hb := B.bytes
  have hr := B.returns
  have hts0 := atoms_spec (ws := .code yX2_init cX2_init 2 none :: am_tbl) B.pre
  have hts : ∀ w ∈ am_tbl, w.before _ s = true := fun w h => hts0 w (List.mem_cons_of_mem _ h)
  have hown : s.vm.findClass RX2 = some m.cls := findClass_of_methodNamed B.named
  have hlocks := B.notSynchronized
  have hin : meth.name = "<init>" := (name_of_methodNamed B.named B.method).1
  subst hsz
  have hD := hD0.self (sz := s.heap.size)
  generalize hAe : va_A [(a26, .inr (2, [.null, .int 0, .null, .null, .null, .int 0, .int 0]))] s.heap.size = A at hD ⊢
  have hA : ∀ q : Nat, s.heap.size ≤ q → A q := fun q h => by rw [← hAe]; exact Or.inr h
  have hS : va_S A s.heap s.heap [] := va_S.rf
  have hl := lv_entry ([.ref a26, .ref r1]) (n := 2) (Nat.le_of_ble_eq_true rfl)
  rw [lg_entry_eq]
  generalize (lg_sl ([.ref a26, .ref r1]) ++ List.replicate (2 - (lg_sl ([.ref a26, .ref r1])).length) Slot.unset).toArray = ls at hl ⊢
  have hl : lv_has ls 2 [(0, .ref a26), (1, .ref r1)] := hl
  refine lv_aload_n hx hb dX2_init_0 rfl (lv_at hl 0 rfl) ?_
  refine W.objInit hx hb hown (hts (.methodLink RX2 3 objectInit) (am_at 207 (by decide +kernel) (by decide +kernel))) (hts (.instanceMethod objectInit) (am_at 18 (by decide +kernel) (by decide +kernel))) (hts (.code objectInit ⟨#[0xb1]⟩ 1 none) (am_at 19 (by decide +kernel) (by decide +kernel))) rfl (by rw [hml]; exact hl.1) rfl dX2_init_1 (Nat.le_of_ble_eq_true rfl) (Nat.le_of_ble_eq_true rfl) ?_
  refine W.eq (g2 := F0 m 4 ls []) rfl ?_
  refine lv_aload_n hx hb dX2_init_4 rfl (lv_at hl 0 rfl) ?_
  refine lv_bipush (v := 6) hx hb dX2_init_5 rfl ?_
  refine va_newa (atype := .int) hx hb (hts (.arrayClass .int) (am_at 92 (by decide +kernel) (by decide +kernel))) (ty := .int) rfl hK hP hD hS hA (N' := 6) (a0 := (6, .inl (fun _ => 0))) (na_int 6) (by decide) rfl (by decide +kernel) (Nat.le_of_ble_eq_true rfl) (Nat.le_of_ble_eq_true rfl) dX2_init_7 (fun a27 e27 H hK hP hD hS => ?_)
  have hP : va_P (dC, dI) vwCl [(a26, .inr (2, [.null, .int 0, .null, .null, .null, .int 0, .int 0])), (a27, .inl (e27, 6, .inl (fun _ => 0)))] H := hP
  have hD : va_D A [(a26, .inr (2, [.null, .int 0, .null, .null, .null, .int 0, .int 0])), (a27, .inl (e27, 6, .inl (fun _ => 0)))] := hD
  have hK : va_K (dC, dI) vwCl [(e27, .int)] s := hK
  refine va_putF (D := (dC, dI)) (ci := 2) (v := .ref a27) (ty := tyX2 2) (C := RX2) (T := TX2) (N := 7) hx hb hts cl2.2.1 tyX2 cl2.2.2.1 cl2.2.2.2 hown hK hP hD hS 0 rfl cl2.1 2 (by decide) (hts (.fieldLink RX2 9 (TX2 2).1 (TX2 2).2.1 (TX2 2).2.2.1) (am_at 210 (by decide +kernel) (by decide +kernel))) (fun _ h9 => h9) rfl hin rfl (cl2.2.2.1 2 (by decide)) rfl rfl (Nat.le_of_ble_eq_true rfl) dX2_init_9 (fun H locs hP hD hS => ?_)
  have hP : va_P (dC, dI) vwCl [(a26, .inr (2, [.null, .int 0, .ref a27, .null, .null, .int 0, .int 0])), (a27, .inl (e27, 6, .inl (fun _ => 0)))] H := hP
  have hD : va_D A [(a26, .inr (2, [.null, .int 0, .ref a27, .null, .null, .int 0, .int 0])), (a27, .inl (e27, 6, .inl (fun _ => 0)))] := hD
  refine lv_aload_n hx hb dX2_init_12 rfl (lv_at hl 0 rfl) ?_
  refine lv_bipush (v := 6) hx hb dX2_init_13 rfl ?_
  refine va_newa (atype := .int) hx hb (hts (.arrayClass .int) (am_at 92 (by decide +kernel) (by decide +kernel))) (ty := .int) rfl hK hP hD hS hA (N' := 6) (a0 := (6, .inl (fun _ => 0))) (na_int 6) (by decide) rfl (by decide +kernel) (Nat.le_of_ble_eq_true rfl) (Nat.le_of_ble_eq_true rfl) dX2_init_15 (fun a28 e28 H hK hP hD hS => ?_)
  have hP : va_P (dC, dI) vwCl [(a26, .inr (2, [.null, .int 0, .ref a27, .null, .null, .int 0, .int 0])), (a27, .inl (e27, 6, .inl (fun _ => 0))), (a28, .inl (e28, 6, .inl (fun _ => 0)))] H := hP
  have hD : va_D A [(a26, .inr (2, [.null, .int 0, .ref a27, .null, .null, .int 0, .int 0])), (a27, .inl (e27, 6, .inl (fun _ => 0))), (a28, .inl (e28, 6, .inl (fun _ => 0)))] := hD
  have hK : va_K (dC, dI) vwCl [(e27, .int), (e28, .int)] s := hK
  refine va_putF (D := (dC, dI)) (ci := 2) (v := .ref a28) (ty := tyX2 3) (C := RX2) (T := TX2) (N := 7) hx hb hts cl2.2.1 tyX2 cl2.2.2.1 cl2.2.2.2 hown hK hP hD hS 0 rfl cl2.1 3 (by decide) (hts (.fieldLink RX2 15 (TX2 3).1 (TX2 3).2.1 (TX2 3).2.2.1) (am_at 211 (by decide +kernel) (by decide +kernel))) (fun _ h9 => h9) rfl hin rfl (cl2.2.2.1 3 (by decide)) rfl rfl (Nat.le_of_ble_eq_true rfl) dX2_init_17 (fun H locs hP hD hS => ?_)
  have hP : va_P (dC, dI) vwCl [(a26, .inr (2, [.null, .int 0, .ref a27, .ref a28, .null, .int 0, .int 0])), (a27, .inl (e27, 6, .inl (fun _ => 0))), (a28, .inl (e28, 6, .inl (fun _ => 0)))] H := hP
  have hD : va_D A [(a26, .inr (2, [.null, .int 0, .ref a27, .ref a28, .null, .int 0, .int 0])), (a27, .inl (e27, 6, .inl (fun _ => 0))), (a28, .inl (e28, 6, .inl (fun _ => 0)))] := hD
  refine lv_aload_n hx hb dX2_init_20 rfl (lv_at hl 0 rfl) ?_
  refine lv_bipush (v := 6) hx hb dX2_init_21 rfl ?_
  refine va_newa (atype := .int) hx hb (hts (.arrayClass .int) (am_at 92 (by decide +kernel) (by decide +kernel))) (ty := .int) rfl hK hP hD hS hA (N' := 6) (a0 := (6, .inl (fun _ => 0))) (na_int 6) (by decide) rfl (by decide +kernel) (Nat.le_of_ble_eq_true rfl) (Nat.le_of_ble_eq_true rfl) dX2_init_23 (fun a29 e29 H hK hP hD hS => ?_)
  have hP : va_P (dC, dI) vwCl [(a26, .inr (2, [.null, .int 0, .ref a27, .ref a28, .null, .int 0, .int 0])), (a27, .inl (e27, 6, .inl (fun _ => 0))), (a28, .inl (e28, 6, .inl (fun _ => 0))), (a29, .inl (e29, 6, .inl (fun _ => 0)))] H := hP
  have hD : va_D A [(a26, .inr (2, [.null, .int 0, .ref a27, .ref a28, .null, .int 0, .int 0])), (a27, .inl (e27, 6, .inl (fun _ => 0))), (a28, .inl (e28, 6, .inl (fun _ => 0))), (a29, .inl (e29, 6, .inl (fun _ => 0)))] := hD
  have hK : va_K (dC, dI) vwCl [(e27, .int), (e28, .int), (e29, .int)] s := hK
  refine va_putF (D := (dC, dI)) (ci := 2) (v := .ref a29) (ty := tyX2 4) (C := RX2) (T := TX2) (N := 7) hx hb hts cl2.2.1 tyX2 cl2.2.2.1 cl2.2.2.2 hown hK hP hD hS 0 rfl cl2.1 4 (by decide) (hts (.fieldLink RX2 18 (TX2 4).1 (TX2 4).2.1 (TX2 4).2.2.1) (am_at 212 (by decide +kernel) (by decide +kernel))) (fun _ h9 => h9) rfl hin rfl (cl2.2.2.1 4 (by decide)) rfl rfl (Nat.le_of_ble_eq_true rfl) dX2_init_25 (fun H locs hP hD hS => ?_)
  have hP : va_P (dC, dI) vwCl [(a26, .inr (2, [.null, .int 0, .ref a27, .ref a28, .ref a29, .int 0, .int 0])), (a27, .inl (e27, 6, .inl (fun _ => 0))), (a28, .inl (e28, 6, .inl (fun _ => 0))), (a29, .inl (e29, 6, .inl (fun _ => 0)))] H := hP
  have hD : va_D A [(a26, .inr (2, [.null, .int 0, .ref a27, .ref a28, .ref a29, .int 0, .int 0])), (a27, .inl (e27, 6, .inl (fun _ => 0))), (a28, .inl (e28, 6, .inl (fun _ => 0))), (a29, .inl (e29, 6, .inl (fun _ => 0)))] := hD
  refine lv_aload_n hx hb dX2_init_28 rfl (lv_at hl 0 rfl) ?_
  refine lv_aload_n hx hb dX2_init_29 rfl (lv_at hl 1 rfl) ?_
  refine va_putF (D := (dC, dI)) (ci := 2) (v := .ref r1) (ty := tyX2 0) (C := RX2) (T := TX2) (N := 7) hx hb hts cl2.2.1 tyX2 cl2.2.2.1 cl2.2.2.2 hown hK hP hD hS 0 rfl cl2.1 0 (by decide) (hts (.fieldLink RX2 21 (TX2 0).1 (TX2 0).2.1 (TX2 0).2.2.1) (am_at 208 (by decide +kernel) (by decide +kernel))) (fun _ h9 => h9) rfl hin rfl (cl2.2.2.1 0 (by decide)) rfl rfl (Nat.le_of_ble_eq_true rfl) dX2_init_30 (fun H locs hP hD hS => ?_)
  have hP : va_P (dC, dI) vwCl [(a26, .inr (2, [.ref r1, .int 0, .ref a27, .ref a28, .ref a29, .int 0, .int 0])), (a27, .inl (e27, 6, .inl (fun _ => 0))), (a28, .inl (e28, 6, .inl (fun _ => 0))), (a29, .inl (e29, 6, .inl (fun _ => 0)))] H := hP
  have hD : va_D A [(a26, .inr (2, [.ref r1, .int 0, .ref a27, .ref a28, .ref a29, .int 0, .int 0])), (a27, .inl (e27, 6, .inl (fun _ => 0))), (a28, .inl (e28, 6, .inl (fun _ => 0))), (a29, .inl (e29, 6, .inl (fun _ => 0)))] := hD
  refine W.widen (k := 3) (n := 18) (Nat.le_of_ble_eq_true rfl) (Nat.le_of_ble_eq_true rfl) ?_
  exact W.vret hx hb hr (fun t ht hW => ⟨⟨(), rfl, trivial, a27, a28, a29, e27, e28, e29, by rw [ht]; exact hP, va_K.moved hW.alike hK, hD⟩, hS.F ht⟩) hS.2.2 dX2_init_33
