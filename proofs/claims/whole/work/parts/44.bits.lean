def pb : Nat → Nat → Nat
  | 0, _ => 0
  | m + 1, n => n % 2 + pb m (n / 2)
theorem pb_le : ∀ m n, pb m n ≤ m := by
  intro m
  induction m with
  | zero => intro n; exact Nat.le_refl _
  | succ m ih => intro n; have := ih (n / 2); simp only [pb]; omega
theorem pb_add : ∀ a b n, pb (a + b) n = pb a n + pb b (n / 2 ^ a) := by
  intro a
  induction a with
  | zero => intro b n; simp [pb]
  | succ a ih =>
    intro b n
    rw [show a + 1 + b = (a + b) + 1 by omega]
    simp only [pb]
    rw [ih, Nat.div_div_eq_div_mul, Nat.pow_succ, Nat.mul_comm 2]; omega
theorem pb_hi : ∀ m n, pb (m + 1) n = pb m n + (if n.testBit m = true then 1 else 0) := by
  intro m
  induction m with
  | zero =>
    intro n
    simp only [pb, Nat.testBit_zero, decide_eq_true_eq]
    split <;> omega
  | succ m ih =>
    intro n
    have e1 : pb (m + 1 + 1) n = n % 2 + pb (m + 1) (n / 2) := rfl
    have e2 : pb (m + 1) n = n % 2 + pb m (n / 2) := rfl
    rw [e1, e2, ih, Nat.testBit_succ]; omega
theorem and_dig (w : Nat) {a b c e : Nat} (hb : b < 2 ^ w) (he : e < 2 ^ w) : (2 ^ w * a + b) &&& (2 ^ w * c + e) = 2 ^ w * (a &&& c) + (b &&& e) := by
  apply Nat.eq_of_testBit_eq
  intro i
  rw [Nat.testBit_and, Nat.testBit_two_pow_mul_add a hb, Nat.testBit_two_pow_mul_add c he, Nat.testBit_two_pow_mul_add _ (Nat.and_lt_two_pow b he)]
  split
  · rw [Nat.testBit_and]
  · rw [Nat.testBit_and]
def mkd (w c : Nat) : Nat → Nat
  | 0 => 0
  | m + 1 => 2 ^ w * mkd w c m + c
def dgs (w : Nat) : Nat → Nat → Nat
  | 0, _ => 0
  | m + 1, n => 2 ^ w * dgs w m (n / 2 ^ w) + pb w n
theorem st1 : ∀ m n, n < 4 ^ m → ((n / 2) &&& mkd 2 1 m) + dgs 2 m n = n := by
  intro m
  induction m with
  | zero => intro n h; have : n = 0 := by simpa using h
            subst this; rfl
  | succ m ih =>
    intro n h
    have h1 : n / 4 < 4 ^ m := by rw [Nat.pow_succ] at h; omega
    have := ih (n / 4) h1
    have e : n / 2 = 2 ^ 2 * (n / 4 / 2) + (2 * (n / 4 % 2) + n % 4 / 2) := by omega
    simp only [mkd, dgs]
    rw [e, and_dig 2 (by omega) (by omega), Nat.and_one_is_mod]
    simp only [pb]
    have e4 : n / 2 ^ 2 = n / 4 := rfl
    rw [e4]
    omega
theorem dgs_two (w m n : Nat) : dgs w (2 * (m + 1)) n = 2 ^ w * (2 ^ w * dgs w (2 * m) (n / 2 ^ w / 2 ^ w) + pb w (n / 2 ^ w)) + pb w n := by
  rw [show 2 * (m + 1) = 2 * m + 1 + 1 by omega]
  simp only [dgs]
theorem st2 : ∀ m n, ((dgs 2 (2 * m) n) &&& mkd 4 3 m) + ((dgs 2 (2 * m) n / 4) &&& mkd 4 3 m) = dgs 4 m n := by
  intro m
  induction m with
  | zero => intro n; simp [dgs, mkd]
  | succ m ih =>
    intro n
    have := ih (n / 16)
    rw [dgs_two, Nat.div_div_eq_div_mul, show (2 : Nat) ^ 2 * 2 ^ 2 = 16 from rfl, show (2 : Nat) ^ 2 = 4 from rfl]
    have ha := pb_le 2 (n / 4)
    have hb := pb_le 2 n
    have hc : pb 4 n = pb 2 n + pb 2 (n / 4) := pb_add 2 2 n
    generalize hq : dgs 2 (2 * m) (n / 16) = q at *
    generalize hA : pb 2 (n / 4) = a at *
    generalize hB : pb 2 n = b at *
    simp only [mkd, dgs]
    rw [show n / 2 ^ 4 = n / 16 from rfl, ← this, hc]
    have e1 : 4 * (4 * q + a) + b = 2 ^ 4 * q + (4 * a + b) := by omega
    have e2 : (4 * (4 * q + a) + b) / 4 = 2 ^ 4 * (q / 4) + (4 * (q % 4) + a) := by omega
    have m3 : ∀ x, x &&& 3 = x % 4 := fun x => Nat.and_two_pow_sub_one_eq_mod x 2
    rw [e2, e1, and_dig 4 (by omega) (by omega), and_dig 4 (by omega) (by omega), m3, m3]
    omega
theorem dgs_mod (m n : Nat) : dgs 4 m n % 16 ≤ 4 := by
  cases m with
  | zero => simp [dgs]
  | succ m =>
    simp only [dgs]
    have := pb_le 4 n
    omega
theorem st3 : ∀ m n, ((dgs 4 (2 * m) n) + (dgs 4 (2 * m) n / 16)) &&& mkd 8 15 m = dgs 8 m n := by
  intro m
  induction m with
  | zero => intro n; simp [dgs, mkd]
  | succ m ih =>
    intro n
    have := ih (n / 256)
    have hm := dgs_mod (2 * m) (n / 256)
    rw [dgs_two, Nat.div_div_eq_div_mul, show (2 : Nat) ^ 4 * 2 ^ 4 = 256 from rfl, show (2 : Nat) ^ 4 = 16 from rfl]
    have ha := pb_le 4 (n / 16)
    have hb := pb_le 4 n
    have hc : pb 8 n = pb 4 n + pb 4 (n / 16) := pb_add 4 4 n
    generalize hq : dgs 4 (2 * m) (n / 256) = q at *
    generalize hA : pb 4 (n / 16) = a at *
    generalize hB : pb 4 n = b at *
    simp only [mkd, dgs]
    rw [show n / 2 ^ 8 = n / 256 from rfl, ← this, hc]
    have e1 : 16 * (16 * q + a) + b + (16 * (16 * q + a) + b) / 16 = 2 ^ 8 * (q + q / 16) + (16 * (a + q % 16) + (a + b)) := by omega
    have m3 : ∀ x, x &&& 15 = x % 16 := fun x => Nat.and_two_pow_sub_one_eq_mod x 4
    rw [e1, and_dig 8 (by omega) (by omega), m3]
    omega
theorem st45 (n : Nat) : let i := dgs 8 4 n; let i1 := i + i / 256; let i2 := i1 + i1 / 65536; i2 % 64 = pb 32 n ∧ i2 < 4294967296 := by
  have h0 := pb_le 8 n
  have h1 := pb_le 8 (n / 2 ^ 8)
  have h2 := pb_le 8 (n / 2 ^ 8 / 2 ^ 8)
  have h3 := pb_le 8 (n / 2 ^ 8 / 2 ^ 8 / 2 ^ 8)
  have e : pb 32 n = pb 8 n + (pb 8 (n / 2 ^ 8) + (pb 8 (n / 2 ^ 8 / 2 ^ 8) + pb 8 (n / 2 ^ 8 / 2 ^ 8 / 2 ^ 8))) := by
    rw [show (32 : Nat) = 8 + (8 + (8 + 8)) from rfl, pb_add, pb_add, pb_add]
  simp only [dgs]
  rw [e]
  generalize pb 8 n = p0 at *
  generalize pb 8 (n / 2 ^ 8) = p1 at *
  generalize pb 8 (n / 2 ^ 8 / 2 ^ 8) = p2 at *
  generalize pb 8 (n / 2 ^ 8 / 2 ^ 8 / 2 ^ 8) = p3 at *
  have a1 : 2 ^ 8 * (2 ^ 8 * (2 ^ 8 * (2 ^ 8 * 0 + p3) + p2) + p1) + p0 = p0 + 256 * p1 + 65536 * p2 + 16777216 * p3 := by omega
  have a2 : (p0 + 256 * p1 + 65536 * p2 + 16777216 * p3) / 256 = p1 + 256 * p2 + 65536 * p3 := by omega
  have a3 : (p0 + 256 * p1 + 65536 * p2 + 16777216 * p3 + (p1 + 256 * p2 + 65536 * p3)) / 65536 = p2 + p3 + 256 * p3 := by omega
  rw [a1, a2, a3]
  omega
theorem dgs_lt (w : Nat) (hw : w < 2 ^ w) : ∀ m n, dgs w m n < 2 ^ (w * m) := by
  intro m
  induction m with
  | zero => intro n; simp [dgs]
  | succ m ih =>
    intro n
    have h1 := ih (n / 2 ^ w)
    have h2 := pb_le w n
    simp only [dgs]
    rw [Nat.mul_succ, Nat.pow_add, Nat.mul_comm (2 ^ (w * m))]
    have : 2 ^ w * (dgs w m (n / 2 ^ w) + 1) ≤ 2 ^ w * 2 ^ (w * m) := Nat.mul_le_mul_left _ h1
    rw [Nat.mul_add] at this
    omega
theorem am_ldcw {M : am_M} {d pc : Nat} {loc rest : List Value} {mem : am_Mem} {Qp : Option Value → am_Mem → Prop} {index : Nat} {v : Int32} (hc : Cond.constant M.1.cls index v ∈ am_tbl) (hdg : decode M.2.1 pc = .ok (.ldc_w index, 3)) (k : am_J M d (pc + 3) loc (.int v :: rest) mem Qp) : am_J M d pc loc rest mem Qp := fun p l e R s m args below meth c dC dI ad ca cells slots Z hC hE H locs ls hH hl => lv_ldcw hC.1.1 hC.1.2.1 hC.1.2.2.2 (hC.2.1 _ hc) hdg (k p l e R s m args below meth c dC dI ad ca cells slots Z hC hE H locs ls hH hl)
theorem kJ6_265 : Cond.constant RJ6 265 1431655765 ∈ am_tbl := am_at 539 (by decide +kernel) (by decide +kernel)
theorem kJ6_266 : Cond.constant RJ6 266 858993459 ∈ am_tbl := am_at 540 (by decide +kernel) (by decide +kernel)
theorem kJ6_267 : Cond.constant RJ6 267 252645135 ∈ am_tbl := am_at 541 (by decide +kernel) (by decide +kernel)
def us (x : Int32) (k : Int32) : Int32 := (x.toUInt32 >>> (k.toUInt32 &&& Int32.toUInt32 31)).toInt32
def bcI (x : Int32) : Int32 :=
  let i1 := x - (us x 1 &&& 1431655765)
  let i2 := (i1 &&& 858993459) + (us i1 2 &&& 858993459)
  let i3 := (i2 + us i2 4) &&& 252645135
  let i4 := i3 + us i3 8
  let i5 := i4 + us i4 16
  i5 &&& 63
set_option maxRecDepth 100000 in
set_option maxHeartbeats 4000000 in
theorem sgJ_bitCount {D : Nat} {mem : am_Mem} {Q : Option Value → am_Mem → Prop} {v0 : Int32} (h : Q (some (.int (bcI v0))) mem) : am_J mJ6_bitCount_0f7a4 D 0 [.int v0] [] mem Q := by
  refine am_iload_n (pc := 0) 0 dJ6_bitCount_0f7a4_0 rfl rfl ?_
  refine am_iload_n (pc := 1) 0 dJ6_bitCount_0f7a4_1 rfl rfl ?_
  refine am_iconst (pc := 2) (v := 1) dJ6_bitCount_0f7a4_2 rfl ?_
  refine am_iushr (pc := 3) dJ6_bitCount_0f7a4_3 ?_
  refine am_ldcw (pc := 4) kJ6_265 dJ6_bitCount_0f7a4_4 ?_
  refine am_iand (pc := 7) dJ6_bitCount_0f7a4_7 ?_
  refine am_isub (pc := 8) dJ6_bitCount_0f7a4_8 ?_
  refine am_istore_n (pc := 9) 0 dJ6_bitCount_0f7a4_9 rfl (by decide) rfl ?_
  refine am_iload_n (pc := 10) 0 dJ6_bitCount_0f7a4_10 rfl rfl ?_
  refine am_ldcw (pc := 11) kJ6_266 dJ6_bitCount_0f7a4_11 ?_
  refine am_iand (pc := 14) dJ6_bitCount_0f7a4_14 ?_
  refine am_iload_n (pc := 15) 0 dJ6_bitCount_0f7a4_15 rfl rfl ?_
  refine am_iconst (pc := 16) (v := 2) dJ6_bitCount_0f7a4_16 rfl ?_
  refine am_iushr (pc := 17) dJ6_bitCount_0f7a4_17 ?_
  refine am_ldcw (pc := 18) kJ6_266 dJ6_bitCount_0f7a4_18 ?_
  refine am_iand (pc := 21) dJ6_bitCount_0f7a4_21 ?_
  refine am_iadd (pc := 22) dJ6_bitCount_0f7a4_22 ?_
  refine am_istore_n (pc := 23) 0 dJ6_bitCount_0f7a4_23 rfl (by decide) rfl ?_
  refine am_iload_n (pc := 24) 0 dJ6_bitCount_0f7a4_24 rfl rfl ?_
  refine am_iload_n (pc := 25) 0 dJ6_bitCount_0f7a4_25 rfl rfl ?_
  refine am_iconst (pc := 26) (v := 4) dJ6_bitCount_0f7a4_26 rfl ?_
  refine am_iushr (pc := 27) dJ6_bitCount_0f7a4_27 ?_
  refine am_iadd (pc := 28) dJ6_bitCount_0f7a4_28 ?_
  refine am_ldcw (pc := 29) kJ6_267 dJ6_bitCount_0f7a4_29 ?_
  refine am_iand (pc := 32) dJ6_bitCount_0f7a4_32 ?_
  refine am_istore_n (pc := 33) 0 dJ6_bitCount_0f7a4_33 rfl (by decide) rfl ?_
  refine am_iload_n (pc := 34) 0 dJ6_bitCount_0f7a4_34 rfl rfl ?_
  refine am_iload_n (pc := 35) 0 dJ6_bitCount_0f7a4_35 rfl rfl ?_
  refine am_bipush (pc := 36) (v := 8) dJ6_bitCount_0f7a4_36 rfl ?_
  refine am_iushr (pc := 38) dJ6_bitCount_0f7a4_38 ?_
  refine am_iadd (pc := 39) dJ6_bitCount_0f7a4_39 ?_
  refine am_istore_n (pc := 40) 0 dJ6_bitCount_0f7a4_40 rfl (by decide) rfl ?_
  refine am_iload_n (pc := 41) 0 dJ6_bitCount_0f7a4_41 rfl rfl ?_
  refine am_iload_n (pc := 42) 0 dJ6_bitCount_0f7a4_42 rfl rfl ?_
  refine am_bipush (pc := 43) (v := 16) dJ6_bitCount_0f7a4_43 rfl ?_
  refine am_iushr (pc := 45) dJ6_bitCount_0f7a4_45 ?_
  refine am_iadd (pc := 46) dJ6_bitCount_0f7a4_46 ?_
  refine am_istore_n (pc := 47) 0 dJ6_bitCount_0f7a4_47 rfl (by decide) rfl ?_
  refine am_iload_n (pc := 48) 0 dJ6_bitCount_0f7a4_48 rfl rfl ?_
  refine am_bipush (pc := 49) (v := 63) dJ6_bitCount_0f7a4_49 rfl ?_
  refine am_iand (pc := 51) dJ6_bitCount_0f7a4_51 ?_
  exact am_ireturn rfl dJ6_bitCount_0f7a4_52 h
/-! its value -/
def un (x : Int32) : Nat := x.toBitVec.toNat
theorem un_lt (x : Int32) : un x < 4294967296 := x.toBitVec.isLt
theorem un_and (x y : Int32) : un (x &&& y) = un x &&& un y := by unfold un; rw [Int32.toBitVec_and, BitVec.toNat_and]
theorem un_add {x y : Int32} (h : un x + un y < 4294967296) : un (x + y) = un x + un y := by
  unfold un at *
  rw [Int32.toBitVec_add, BitVec.toNat_add]
  exact Nat.mod_eq_of_lt h
theorem un_sub {x y : Int32} (h : un y ≤ un x) : un (x - y) = un x - un y := by
  have h1 := un_lt x
  unfold un at *
  rw [Int32.toBitVec_sub, BitVec.toNat_sub]
  omega
theorem un_us (k : Nat) (hk : k < 32) (x : Int32) : un (us x (nI k)) = un x / 2 ^ k := by
  unfold un us
  show (x.toUInt32 >>> ((nI k).toUInt32 &&& Int32.toUInt32 31)).toBitVec.toNat = _
  rw [UInt32.toBitVec_shiftRight]
  show (x.toUInt32.toBitVec >>> (((nI k).toUInt32 &&& Int32.toUInt32 31).toBitVec % 32).toNat).toNat = _
  rw [s_u k hk, BitVec.toNat_ushiftRight, Nat.shiftRight_eq_div_pow]; rfl
theorem un_eq {x : Int32} {k : Nat} (h : un x = k) : x = nI k := by
  apply Int32.toBitVec_inj.mp
  apply BitVec.eq_of_toNat_eq
  have h1 := un_lt x
  have : (nI k).toBitVec.toNat = k % 4294967296 := by
    unfold nI
    rfl
  rw [this, Nat.mod_eq_of_lt (by omega)]
  exact h
theorem bcI_eq (x : Int32) : bcI x = nI (pb 32 (un x)) := by
  apply un_eq
  have hx := un_lt x
  have k1 : un (1431655765 : Int32) = mkd 2 1 16 := by decide +kernel
  have k2 : un (858993459 : Int32) = mkd 4 3 8 := by decide +kernel
  have k3 : un (252645135 : Int32) = mkd 8 15 4 := by decide +kernel
  have k4 : un (63 : Int32) = 63 := by decide +kernel
  have s1 := st1 16 (un x) (by simpa using hx)
  have s2 := st2 8 (un x)
  have s3 := st3 4 (un x)
  have s4 := st45 (un x)
  have l4 := dgs_lt 4 (by decide) 8 (un x)
  simp only at s4
  have u1 : un (x - (us x 1 &&& 1431655765)) = dgs 2 16 (un x) := by
    have a : un (us x 1 &&& 1431655765) = (un x / 2) &&& mkd 2 1 16 := by rw [un_and, k1, show us x 1 = us x (nI 1) from rfl, un_us 1 (by omega)]
    rw [un_sub (by rw [a]; omega), a]; omega
  have u2 : un (((x - (us x 1 &&& 1431655765)) &&& 858993459) + (us (x - (us x 1 &&& 1431655765)) 2 &&& 858993459)) = dgs 4 8 (un x) := by
    have a : un ((x - (us x 1 &&& 1431655765)) &&& 858993459) = dgs 2 16 (un x) &&& mkd 4 3 8 := by rw [un_and, k2, u1]
    have b : un (us (x - (us x 1 &&& 1431655765)) 2 &&& 858993459) = (dgs 2 16 (un x) / 4) &&& mkd 4 3 8 := by rw [un_and, k2, show us (x - (us x 1 &&& 1431655765)) 2 = us (x - (us x 1 &&& 1431655765)) (nI 2) from rfl, un_us 2 (by omega), u1]
    have l4' : dgs 4 8 (un x) < 4294967296 := l4
    have s2' : (dgs 2 16 (un x) &&& mkd 4 3 8) + ((dgs 2 16 (un x) / 4) &&& mkd 4 3 8) = dgs 4 8 (un x) := s2
    rw [un_add (by rw [a, b, s2']; exact l4'), a, b, s2']
  unfold bcI
  simp only
  generalize hi2 : ((x - (us x 1 &&& 1431655765)) &&& 858993459) + (us (x - (us x 1 &&& 1431655765)) 2 &&& 858993459) = i2 at *
  have s3' : (dgs 4 8 (un x) + dgs 4 8 (un x) / 16) &&& mkd 8 15 4 = dgs 8 4 (un x) := s3
  have lt3 : dgs 4 8 (un x) + dgs 4 8 (un x) / 16 < 4294967296 := by
    have hm : ∀ m n, 15 * dgs 4 m n + 4 ≤ 4 * 16 ^ m := by
      intro m
      induction m with
      | zero => intro n; simp [dgs]
      | succ m ih =>
        intro n
        have h1 := ih (n / 2 ^ 4)
        have h2 := pb_le 4 n
        have h3 : 0 < 16 ^ m := Nat.pow_pos (by decide)
        simp only [dgs]
        rw [show (16 : Nat) ^ (m + 1) = 16 ^ m * 16 from Nat.pow_succ ..]
        omega
    have := hm 8 (un x)
    have e : (16 : Nat) ^ 8 = 4294967296 := by decide
    rw [e] at this
    omega
  have u3 : un ((i2 + us i2 4) &&& 252645135) = dgs 8 4 (un x) := by
    have b : un (us i2 4) = dgs 4 8 (un x) / 16 := by rw [show us i2 4 = us i2 (nI 4) from rfl, un_us 4 (by omega), u2]
    rw [un_and, k3, un_add (by rw [u2, b]; exact lt3), u2, b, s3']
  generalize hi3 : (i2 + us i2 4) &&& 252645135 = i3 at *
  have b4 : un (us i3 8) = dgs 8 4 (un x) / 256 := by rw [show us i3 8 = us i3 (nI 8) from rfl, un_us 8 (by omega), u3]
  have u4 : un (i3 + us i3 8) = dgs 8 4 (un x) + dgs 8 4 (un x) / 256 := by
    rw [un_add (by rw [u3, b4]; omega), u3, b4]
  generalize hi4 : i3 + us i3 8 = i4 at *
  have b5 : un (us i4 16) = (dgs 8 4 (un x) + dgs 8 4 (un x) / 256) / 65536 := by rw [show us i4 16 = us i4 (nI 16) from rfl, un_us 16 (by omega), u4]
  have m6 : ∀ n : Nat, n &&& 63 = n % 64 := fun n => Nat.and_two_pow_sub_one_eq_mod n 6
  rw [un_and, k4, un_add (by rw [u4, b5]; exact s4.2), u4, b5, m6]
  exact s4.1
theorem pb_mbl (x : Int32) : ∀ m, pb m (un x) = (mbl m x).length := by
  intro m
  induction m with
  | zero => rfl
  | succ m ih =>
    rw [pb_hi, ih, mbl_succ, List.length_append]
    have : bt x m = (un x).testBit m := rfl
    rw [this]
    split <;> rfl
theorem cJ_bitCount {d : Nat} {mem : am_Mem} {P : Int32 → am_Mem → Prop} {x : Int32} (h : P (nI (mbl 32 x).length) mem) : am_Ci mJ6_bitCount_0f7a4 d [.int x] mem P := am_ci rfl rfl rfl (sgJ_bitCount (am_eq h (by rw [bcI_eq, pb_mbl])))
theorem mbl_le (n : Nat) (x : Int32) : (mbl n x).length ≤ n := by unfold mbl; exact Nat.le_trans (List.length_filter_le _ _) (by simp)
theorem c1_isSetForLines {d : Nat} {mem : am_Mem} {P : Int32 → am_Mem → Prop} {n : Nat} {set : Int32} (hn : n ≤ 8) (hN : mem 1 4 = nI n) (h : P (bi (isl n set)) mem) : am_Ci m1_isSetForLines (d + 1) [.ref 1, .int set] mem P := by
  refine am_ci rfl rfl rfl (sg1_isSetForLines_0 (c1_everySite hn hN ⟨fun q => am_eq h ?_, fun q => cJ_bitCount ?_⟩))
  · unfold isl
    rw [decide_eq_false q]; rfl
  · have e := mbl_len8 hn ((ev_and hn set).mp q) 32 (by omega) (by omega)
    have h8 := mbl_le n set
    rw [e, show (6 : Int32) = nI 6 from rfl, nI_ltI (by omega) (by omega)]
    refine ⟨fun q1 => am_eq h ?_, fun q1 => am_eq h ?_⟩
    · unfold isl
      rw [decide_eq_true q, decide_eq_false (by omega)]; rfl
    · unfold isl
      rw [decide_eq_true q, decide_eq_true (by omega)]; rfl
