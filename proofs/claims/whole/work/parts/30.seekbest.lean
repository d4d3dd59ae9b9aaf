def cor (c : Nat) : Int32 := if c < 4 then nI c else -9
def BC (mem : am_Mem) (n : Nat) (b : Bs) : Prop := mem 15 7 = iz b.1 ∧ (0 ≤ b.1 → ∀ i, i < n → mem 19 i = cor (b.2 i))
def sB (mem mem' : am_Mem) : Prop := (∀ a, a ≠ 15 → a ≠ 18 → a ≠ 19 → mem' a = mem a) ∧ ∀ j, j ≠ 7 → mem' 15 j = mem 15 j
theorem sB_rf (mem : am_Mem) : sB mem mem := ⟨fun _ _ _ _ => rfl, fun _ _ => rfl⟩
theorem sB_set {m0 m : am_Mem} (h : sB m0 m) {i : Nat} {v : Int32} : sB m0 (am_set m 18 i v) := ⟨fun a h1 h2 h3 => by rw [am_set_na _ _ h2]; exact h.1 a h1 h2 h3, fun j hj => by rw [am_set_na _ _ (by decide)]; exact h.2 j hj⟩
theorem tlB_id {β : Type} {f : Nat → β → β} {b : β} (h : ∀ i, f i b = b) : ∀ (t c : Nat), tlB f t c b = b := by
  intro t
  induction t with
  | zero => intro c; rfl
  | succ t ih => intro c; simp only [tlB]; rw [h]; exact ih _
theorem mx_congr {K : Nat → Nat → Bool} {wo : Nat → Int} {r s : Nat} {o o' : Nat → Bool} (hw : ∀ i, s ≤ i → i < s + r → 1 ≤ wo i) (h : ∀ k, 4 * s ≤ k → k < 4 * (s + r) → o k = o' k) : mx K wo r s o = mx K wo r s o' :=
  Int.le_antisymm (mx_mono hw (fun k h1 h2 hk => by rw [← h k h1 h2]; exact hk)) (mx_mono hw (fun k h1 h2 hk => by rw [h k h1 h2]; exact hk))
theorem rem_rng {wo : Nat → Int} : ∀ {r s : Nat}, (∀ i, s ≤ i → i < s + r → 1 ≤ wo i ∧ wo i ≤ 99) → 0 ≤ rem wo r s ∧ rem wo r s ≤ 99 * r := by
  intro r
  induction r with
  | zero => intro s _; simp [rem]
  | succ r ih =>
    intro s h
    have h1 := ih (s := s + 1) (fun i h2 h3 => h i (by omega) (by omega))
    have h2 := h s (by omega) (by omega)
    simp only [rem]; omega
theorem bst_rng {K : Nat → Nat → Bool} {wo : Nat → Int} {n r s : Nat} {o : Nat → Bool} {row : Nat → Nat} {w : Int} {b : Bs} (hn : n ≤ 8) (hsr : s + r = n) (hwo : ∀ i, i < n → 1 ≤ wo i ∧ wo i ≤ 99) (hw : 0 ≤ w ∧ w ≤ 99 * s) (hb : -1 ≤ b.1 ∧ b.1 ≤ 792) : -1 ≤ (bst K wo r s o row w b).1 ∧ (bst K wo r s o row w b).1 ≤ 792 := by
  have h1 : ∀ i, s ≤ i → i < s + r → 1 ≤ wo i := fun i _ h => (hwo i (by omega)).1
  have h2 := mx_rem (K := K) (o := o) h1
  have h3 := rem_rng (wo := wo) (r := r) (s := s) (fun i _ h => hwo i (by omega))
  have h4 := mx_0 (K := K) (wo := wo) (r := r) (s := s) (o := o)
  rw [(bst_val h1).1]
  unfold imax
  split <;> omega
theorem c5_seekBest {m0 : am_Mem} {n : Nat} {K : Nat → Nat → Bool} {wo : Nat → Int} (hn : n ≤ 8) (hN : m0 1 4 = nI n) (hW : ∀ i, i < n → m0 6 i = iz (wo i)) (hwo : ∀ i, i < n → 1 ≤ wo i ∧ wo i ≤ 99) (hK : ∀ k, k < 4 * n → ∀ b, b < 32 → bt (m0 17 k) b = K k b) :
    ∀ (r s d : Nat) (mem : am_Mem) (x : Int32) (row : Nat → Nat) (w : Int) (b : Bs) {P : am_Mem → Prop}, s + r = n → sB m0 mem → (∀ i, i < s → mem 18 i = cor (row i)) → BC mem n b → (-1 ≤ b.1 ∧ b.1 ≤ 792) → (0 ≤ w ∧ w ≤ 99 * s) →
      (∀ mem', sB m0 mem' → (∀ i, i < s → mem' 18 i = mem 18 i) → BC mem' n (bst K wo r s (bt x) row w b) → P mem') →
      am_Cv m5_seekBest (d + r + 2) [.ref 15, .int (nI s), .int x, .int (iz w), .int (iz (w + rem wo r s))] mem P := by
  intro r
  induction r with
  | zero =>
    intro s d mem x row w b P hs hB hrow hb hbr hw h
    have : s = n := by omega
    subst this
    refine am_cv rfl rfl rfl (sg5_seekBest_0 (D := d + 1) ?_)
    have e1 : mem 1 4 = nI s := by rw [hB.1 1 (by decide) (by decide) (by decide)]; exact hN
    rw [show w + rem wo 0 s = w by simp [rem], hb.1, iz_lt (by omega) (by omega) (by omega) (by omega), e1]
    refine ⟨fun q => ⟨fun q1 => absurd q1 (nI_nlt (by omega) (by omega)), fun _ => ⟨rfl, ?_⟩⟩, fun q => ⟨rfl, h mem hB (fun _ _ => rfl) ?_⟩⟩
    · rw [show ((0 : Int32)).toNatClampNeg = 0 from rfl, show ((8 : Int32)).toNatClampNeg = 8 from rfl]
      refine h _ ⟨fun a h1 h2 h3 => ?_, fun j hj => ?_⟩ (fun i hi => ?_) ⟨?_, fun _ i hi => ?_⟩
      · rw [am_put_ne _ _ h3, am_set_na _ _ h1]; exact hB.1 a h1 h2 h3
      · rw [am_put_ne _ _ (by decide), am_set_nj _ _ hj]; exact hB.2 j hj
      · rw [am_put_ne _ _ (by decide), am_set_na _ _ (by decide)]
      · simp only [bst]
        rw [if_pos q, am_put_ne _ _ (by decide), am_set_eq]
      · simp only [bst]
        rw [if_pos q, am_put_same, am_set_na _ _ (by decide)]
        have : va_cpy (mem 18) ((am_set mem 15 7 (iz w)) 19) 0 0 8 i = mem 18 i := by
          unfold va_cpy; rw [if_pos (by omega)]; simp
        rw [this]; exact hrow i hi
    · simp only [bst]; rw [if_neg q]; exact hb
  | succ r ih =>
    intro s d mem x row w b P hs hB hrow hb hbr hw h
    have hw1 : ∀ i, s ≤ i → i < s + (r + 1) → 1 ≤ wo i := fun i _ h => (hwo i (by omega)).1
    have hw2 : ∀ i, s + 1 ≤ i → i < s + 1 + r → 1 ≤ wo i := fun i _ h => (hwo i (by omega)).1
    have hrr := rem_rng (wo := wo) (r := r + 1) (s := s) (fun i _ h => hwo i (by omega))
    have hr0 := rem_rng (wo := wo) (r := r) (s := s + 1) (fun i _ h => hwo i (by omega))
    have hos := hwo s (by omega)
    have e14 : ∀ m, sB m0 m → m 1 4 = nI n := fun m hm => by rw [hm.1 1 (by decide) (by decide) (by decide)]; exact hN
    have e8 : vp_in (nI s) 8 := vp_in_nI (by omega) (by omega)
    have cs : (nI s).toNatClampNeg = s := nI_clamp (by omega)
    refine am_cv rfl rfl rfl (sg5_seekBest_0 (D := d + r + 2) ?_)
    rw [hb.1, iz_lt (by omega) (by omega) (by omega) (by omega), e14 mem hB]
    refine ⟨fun q => ⟨fun _ => ⟨e8, ?_⟩, fun q1 => absurd (nI_lt (by omega) (by omega)) q1⟩, fun q => ⟨rfl, h mem hB (fun _ _ => rfl) ?_⟩⟩
    rotate_left
    · have := (bst_val (K := K) (wo := wo) (r := r + 1) (s := s) (o := bt x) (row := row) (w := w) (b := b) hw1).2
      rw [this (by have := mx_rem (K := K) (o := bt x) hw1; omega)]; exact hb
    refine c6_boxesOf (d := d + r + 1) ?_
    rw [cs, hB.1 6 (by decide) (by decide) (by decide), hW s (by omega)]
    generalize hrest : x &&& ((15 <<< ((4 * nI s + 0) &&& 31)) ^^^ (-1 : Int32)) = rest
    have hrb : ∀ k, k < 32 → bt rest k = (bt x k && decide (k / 4 ≠ s)) := fun k hk => by rw [← hrest]; exact bt_rest (by omega) x hk
    have hrx : ∀ k, 4 * (s + 1) ≤ k → k < 4 * (s + 1 + r) → bt rest k = bt x k := fun k h1 h2 => by
      rw [hrb k (by omega)]
      have : ¬ k / 4 = s := by omega
      simp [this]
    have loop : ∀ (t c : Nat) (mem : am_Mem) (b : Bs), c + t = 4 → sB m0 mem → (∀ i, i < s → mem 18 i = cor (row i)) → BC mem n b → (-1 ≤ b.1 ∧ b.1 ≤ 792) →
        (∀ mem', sB m0 mem' → (∀ i, i < s → mem' 18 i = mem 18 i) → BC mem' n (bst K wo r (s + 1) (bt x) (rs row s 4) w (tlB (fun c b => if bt x (4 * s + c) = true then bst K wo r (s + 1) (mn K (4 * s + c) (bt x)) (rs row s c) (w + wo s) b else b) t c b)) → P mem') →
        am_J m5_seekBest (d + r + 2 + 1) 66 [.ref 15, .int (nI s), .int x, .int (iz w), .int (iz (w + rem wo (r + 1) s)), .int (iz (wo s)), .int rest, .int (nI c), .null, .null] [] mem (fun r mem' => r = none ∧ P mem') := by
      intro t
      induction t with
      | zero =>
        intro c mem b hc hB hrow hb hbr h
        have : c = 4 := by omega
        subst this
        refine sg5_seekBest_66 ⟨fun _ => ⟨e8, ?_⟩, fun q => absurd (show (4 : Int32) ≤ nI 4 from Int32.le_refl _) q⟩
        rw [cs, show nI s + (1 : Int32) = nI (s + 1) from nI_1 s, iz_sub, show w + rem wo (r + 1) s - wo s = w + rem wo r (s + 1) by simp only [rem]; omega]
        refine ih (s + 1) d _ rest (rs row s 4) w b (by omega) (sB_set hB) (fun i hi => ?_) ⟨by rw [am_set_na _ _ (by decide)]; exact hb.1, fun h0 i hi => by rw [am_set_na _ _ (by decide)]; exact hb.2 h0 i hi⟩ hbr (by omega) (fun m' g1 g2 g3 => ⟨rfl, h m' g1 (fun i hi => ?_) ?_⟩)
        · by_cases his : i = s
          · subst his; rw [am_set_eq]; simp [cor, rs]
          · rw [am_set_nj _ _ his, hrow i (by omega)]; simp [rs, his]
        · rw [g2 i (by omega), am_set_nj _ _ (by omega)]
        · rw [bst_congr hrx] at g3; exact g3
      | succ t iht =>
        intro c mem b hc hB hrow hb hbr h
        have hbx : 4 * s + c < 4 * n := by omega
        have e32 : vp_in (nI (4 * s + c)) 32 := vp_in_nI (by omega) (by omega)
        have cb : (nI (4 * s + c)).toNatClampNeg = 4 * s + c := nI_clamp (by omega)
        refine sg5_seekBest_66 ⟨fun q => absurd q ?_, fun _ => c6_boxOf ?_⟩
        · rw [show (4 : Int32) = nI 4 from rfl, nI_leI (by omega) (by omega)]; omega
        rw [box_nI]
        refine c6_hasBit (by omega) ⟨fun q => sg5_seekBest_134 ?_, fun q => ⟨e32, e8, ?_⟩⟩
        · rw [nI_1]
          refine iht (c + 1) mem b (by omega) hB hrow hb hbr (fun m' g1 g2 g3 => h m' g1 g2 ?_)
          simp only [tlB, bi_0.mp q]; exact g3
        · have hox := bi_n0.mp q
          rw [cb, cs, show nI s + (1 : Int32) = nI (s + 1) from nI_1 s, iz_add, hB.1 17 (by decide) (by decide) (by decide)]
          have same : ∀ k, 4 * (s + 1) ≤ k → k < 4 * (s + 1 + r) → bt (rest &&& ((m0 17 (4 * s + c)) ^^^ (-1 : Int32))) k = mn K (4 * s + c) (bt x) k := by
            intro k h1 h2
            rw [bt_left _ _ (by omega), hrx k h1 h2, hK _ hbx k (by omega)]
            rfl
          have h' : ∀ mem', sB m0 mem' → (∀ i, i < s → mem' 18 i = mem 18 i) → BC mem' n (bst K wo r (s + 1) (bt x) (rs row s 4) w (tlB (fun c b => if bt x (4 * s + c) = true then bst K wo r (s + 1) (mn K (4 * s + c) (bt x)) (rs row s c) (w + wo s) b else b) t (c + 1) (bst K wo r (s + 1) (mn K (4 * s + c) (bt x)) (rs row s c) (w + wo s) b))) → P mem' := by
            intro m' g1 g2 g3
            refine h m' g1 g2 ?_
            simp only [tlB, hox, if_true]; exact g3
          rw [show w + rem wo (r + 1) s = w + wo s + rem wo r (s + 1) by simp only [rem]; omega]
          refine ih (s + 1) d _ _ (rs row s c) (w + wo s) b (by omega) (sB_set hB) (fun i hi => ?_) ⟨by rw [am_set_na _ _ (by decide)]; exact hb.1, fun h0 i hi => by rw [am_set_na _ _ (by decide)]; exact hb.2 h0 i hi⟩ hbr (by omega) (fun m4 g1 g2 g3 => ?_)
          · by_cases his : i = s
            · subst his; rw [am_set_eq]; simp [cor, rs]; omega
            · rw [am_set_nj _ _ his, hrow i (by omega)]; simp [rs, his]
          · rw [bst_congr same] at g3
            have r18 : ∀ i, i < s → m4 18 i = mem 18 i := fun i hi => by rw [g2 i (by omega), am_set_nj _ _ (by omega)]
            have hbr4 := bst_rng (K := K) (wo := wo) (n := n) (r := r) (s := s + 1) (o := mn K (4 * s + c) (bt x)) (row := rs row s c) (w := w + wo s) (b := b) hn (by omega) hwo (by omega) hbr
            refine ⟨fun q1 => sg5_seekBest_134 ?_, fun q1 => ⟨rfl, h' m4 g1 r18 ?_⟩⟩
            · rw [nI_1, show w + wo s + rem wo r (s + 1) = w + rem wo (r + 1) s by simp only [rem]; omega]
              exact iht (c + 1) m4 _ (by omega) g1 (fun i hi => by rw [r18 i hi]; exact hrow i hi) g3 hbr4 (fun m' l1 l2 l3 => h' m' l1 (fun i hi => by rw [l2 i hi, r18 i hi]) l3)
            · -- it takes nothing from the others
              have hval := (bst_val (K := K) (wo := wo) (r := r) (s := s + 1) (o := mn K (4 * s + c) (bt x)) (row := rs row s c) (w := w + wo s) (b := b) hw2).1
              have hmx : mx K wo r (s + 1) (mn K (4 * s + c) (bt x)) = mx K wo r (s + 1) (bt x) := by
                rw [← mx_congr hw2 same, q1, mx_congr hw2 hrx]
              rw [hmx] at hval
              generalize bst K wo r (s + 1) (mn K (4 * s + c) (bt x)) (rs row s c) (w + wo s) b = b' at *
              have hge : w + wo s + mx K wo r (s + 1) (bt x) ≤ b'.1 := by rw [hval]; unfold imax; split <;> omega
              have hid : tlB (fun c b => if bt x (4 * s + c) = true then bst K wo r (s + 1) (mn K (4 * s + c) (bt x)) (rs row s c) (w + wo s) b else b) t (c + 1) b' = b' := by
                apply tlB_id
                intro i
                split
                · refine (bst_val hw2).2 ?_
                  have := mx_mono (K := K) (wo := wo) (r := r) (s := s + 1) (o := mn K (4 * s + i) (bt x)) (o' := bt x) hw2 (fun k _ _ hk => by simp only [mn, Bool.and_eq_true] at hk; exact hk.1)
                  omega
                · rfl
              rw [hid, (bst_val hw2).2 (by omega)]
              exact g3
    refine loop 4 0 mem b (by omega) hB hrow hb hbr (fun m' g1 g2 g3 => h m' g1 g2 g3)
