/-! THE MAP, as numbers: how many SITES, WIDTH, HEIGHT, SIZE, GAP; x, y, wide, high, WORTH; ALLOWED; THE HAND -/
abbrev mp_S : Type := (Nat × Int × Int × Int × Int) × ((Nat → Int) × (Nat → Int) × (Nat → Int) × (Nat → Int) × (Nat → Int)) × (Nat → Nat → Bool) × (Nat → Int)
def s_n (σ : mp_S) : Nat := σ.1.1
def s_W (σ : mp_S) : Int := σ.1.2.1
def s_H (σ : mp_S) : Int := σ.1.2.2.1
def s_z (σ : mp_S) : Int := σ.1.2.2.2.1
def s_g (σ : mp_S) : Int := σ.1.2.2.2.2
def s_x (σ : mp_S) : Nat → Int := σ.2.1.1
def s_y (σ : mp_S) : Nat → Int := σ.2.1.2.1
def s_wd (σ : mp_S) : Nat → Int := σ.2.1.2.2.1
def s_ht (σ : mp_S) : Nat → Int := σ.2.1.2.2.2.1
def s_wo (σ : mp_S) : Nat → Int := σ.2.1.2.2.2.2
def s_al (σ : mp_S) : Nat → Nat → Bool := σ.2.2.1
def s_hd (σ : mp_S) : Nat → Int := σ.2.2.2
/-- another SIZE -/
def s_sz (σ : mp_S) (v : Int) : mp_S := ((σ.1.1, σ.1.2.1, σ.1.2.2.1, v, σ.1.2.2.2.2), σ.2)
def s_ok (σ : mp_S) : Prop := s_n σ ≤ 8 ∧ (10 ≤ s_W σ ∧ s_W σ ≤ 400) ∧ (10 ≤ s_H σ ∧ s_H σ ≤ 400) ∧ (1 ≤ s_z σ ∧ s_z σ ≤ 40) ∧ (0 ≤ s_g σ ∧ s_g σ ≤ 20) ∧
  ∀ i, i < s_n σ → (0 ≤ s_x σ i ∧ s_x σ i ≤ s_W σ) ∧ (0 ≤ s_y σ i ∧ s_y σ i ≤ s_H σ) ∧ (1 ≤ s_wd σ i ∧ s_wd σ i ≤ 60) ∧ (1 ≤ s_ht σ i ∧ s_ht σ i ≤ 20) ∧ (1 ≤ s_wo σ i ∧ s_wo σ i ≤ 99) ∧ (s_hd σ i = -9 ∨ (0 ≤ s_hd σ i ∧ s_hd σ i ≤ 3))
theorem s_ok_sz {σ : mp_S} (h : s_ok σ) {v : Int} (h1 : 1 ≤ v) (h2 : v ≤ 40) : s_ok (s_sz σ v) := ⟨h.1, h.2.1, h.2.2.1, ⟨h1, h2⟩, h.2.2.2.2.1, h.2.2.2.2.2⟩
/-- the class's own cells hold it -/
def Ch (mem : am_Mem) (σ : mp_S) : Prop := mem 1 0 = iz (s_W σ) ∧ mem 1 1 = iz (s_H σ) ∧ mem 1 2 = iz (s_z σ) ∧ mem 1 3 = iz (s_g σ) ∧ mem 1 4 = nI (s_n σ) ∧
  ∀ i, i < s_n σ → mem 2 i = iz (s_x σ i) ∧ mem 3 i = iz (s_y σ i) ∧ mem 4 i = iz (s_wd σ i) ∧ mem 5 i = iz (s_ht σ i) ∧ mem 6 i = iz (s_wo σ i) ∧ mem 21 i = iz (s_hd σ i) ∧ ∀ c, c < 4 → mem 7 (4 * i + c) = bi (s_al σ i c)
/-- nothing has changed but cells lo to hi -/
def sm (lo hi : Nat) (mem mem' : am_Mem) : Prop := ∀ a, (a < lo ∨ hi ≤ a) → mem' a = mem a
theorem sm_rf (lo hi : Nat) (mem : am_Mem) : sm lo hi mem mem := fun _ _ => rfl
theorem sm_tr {lo hi : Nat} {m1 m2 m3 : am_Mem} (h1 : sm lo hi m1 m2) (h2 : sm lo hi m2 m3) : sm lo hi m1 m3 := fun a h => (h2 a h).trans (h1 a h)
theorem sm_set {lo hi : Nat} {m1 m2 : am_Mem} (h : sm lo hi m1 m2) {a i : Nat} {v : Int32} (h1 : lo ≤ a) (h2 : a < hi) : sm lo hi m1 (am_set m2 a i v) := by
  intro b hb
  have : b ≠ a := by omega
  rw [am_set, am_put_ne _ _ this]
  exact h b hb
theorem sm_put {lo hi : Nat} {m1 m2 : am_Mem} (h : sm lo hi m1 m2) {a : Nat} {f : Nat → Int32} (h1 : lo ≤ a) (h2 : a < hi) : sm lo hi m1 (am_put m2 a f) := by
  intro b hb
  have : b ≠ a := by omega
  rw [am_put_ne _ _ this]
  exact h b hb
theorem sm_wd {lo hi lo' hi' : Nat} {m1 m2 : am_Mem} (h : sm lo hi m1 m2) (h1 : lo' ≤ lo) (h2 : hi ≤ hi') : sm lo' hi' m1 m2 := fun a ha => h a (by omega)
theorem Ch.keep {mem mem' : am_Mem} {σ : mp_S} (h : Ch mem σ) (hk : ∀ a, a ≤ 7 ∨ a = 21 → mem' a = mem a) : Ch mem' σ := by
  unfold Ch at *
  rw [hk 1 (by omega), hk 2 (by omega), hk 3 (by omega), hk 4 (by omega), hk 5 (by omega), hk 6 (by omega), hk 7 (by omega), hk 21 (by omega)]
  exact h
theorem am_set_at (mem : am_Mem) (a i : Nat) (v : Int32) (j : Nat) : am_set mem a i v a j = if j = i then v else mem a j := by simp [am_set, am_put, upd]
theorem am_set_eq (mem : am_Mem) (a i : Nat) (v : Int32) : am_set mem a i v a i = v := by simp [am_set, am_put, upd]
theorem am_set_nj (mem : am_Mem) {a i j : Nat} (v : Int32) (h : j ≠ i) : am_set mem a i v a j = mem a j := by simp [am_set, am_put, upd, h]
theorem am_set_na (mem : am_Mem) {a b i : Nat} (v : Int32) (h : b ≠ a) : am_set mem a i v b = mem b := by rw [am_set, am_put_ne _ _ h]
theorem box_nI (i c : Nat) : (4 : Int32) * nI i + nI c = nI (4 * i + c) := by rw [show (4 : Int32) = nI 4 from rfl, pk_mul, nI_add]
/-! geometry: at a LEVEL all x and y are z times as great -/
def g_bw (σ : mp_S) (i : Nat) : Int := bxd (s_z σ) (s_wd σ i)
def g_bh (σ : mp_S) (i : Nat) : Int := bxd (s_z σ) (s_ht σ i)
def g_l (σ : mp_S) (z : Int) (i c : Nat) : Int := s_x σ i * z - (if c = 1 ∨ c = 2 then g_bw σ i else 0)
def g_b (σ : mp_S) (z : Int) (i c : Nat) : Int := s_y σ i * z - (if 2 ≤ c then g_bh σ i else 0)
theorem g_rng {σ : mp_S} (h : s_ok σ) {z : Int} (h1 : 1 ≤ z) (h2 : z ≤ 6) {i : Nat} (hi : i < s_n σ) (c : Nat) :
    (1 ≤ g_bw σ i ∧ g_bw σ i ≤ 240) ∧ (1 ≤ g_bh σ i ∧ g_bh σ i ≤ 240) ∧ (0 ≤ s_x σ i * z ∧ s_x σ i * z ≤ 2400) ∧ (0 ≤ s_y σ i * z ∧ s_y σ i * z ≤ 2400) ∧ (-240 ≤ g_l σ z i c ∧ g_l σ z i c ≤ 2400) ∧ (-240 ≤ g_b σ z i c ∧ g_b σ z i c ≤ 2400) := by
  obtain ⟨hx, hy, hw, hh, -, -⟩ := h.2.2.2.2.2 i hi
  have hW := h.2.1
  have hH := h.2.2.1
  have hz := h.2.2.2.1
  have a1 := bxd_rng hz.1 hz.2 hw.1 hw.2
  have a2 := bxd_rng hz.1 hz.2 hh.1 (by omega)
  have a3 : s_x σ i * z ≤ 400 * 6 := Int.mul_le_mul (by omega) h2 (by omega) (by omega)
  have a4 : s_y σ i * z ≤ 400 * 6 := Int.mul_le_mul (by omega) h2 (by omega) (by omega)
  have a5 : 0 ≤ s_x σ i * z := Int.mul_nonneg hx.1 (by omega)
  have a6 : 0 ≤ s_y σ i * z := Int.mul_nonneg hy.1 (by omega)
  refine ⟨a1, a2, ⟨a5, by omega⟩, ⟨a6, by omega⟩, ?_, ?_⟩
  · unfold g_l g_bw; split <;> omega
  · unfold g_b g_bh; split <;> omega
theorem g_WH {σ : mp_S} (h : s_ok σ) {z : Int} (h1 : 1 ≤ z) (h2 : z ≤ 6) : (0 ≤ s_W σ * z ∧ s_W σ * z ≤ 2400) ∧ (0 ≤ s_H σ * z ∧ s_H σ * z ≤ 2400) := by
  have hW := h.2.1
  have hH := h.2.2.1
  have a3 : s_W σ * z ≤ 400 * 6 := Int.mul_le_mul (by omega) h2 (by omega) (by omega)
  have a4 : s_H σ * z ≤ 400 * 6 := Int.mul_le_mul (by omega) h2 (by omega) (by omega)
  exact ⟨⟨Int.mul_nonneg (by omega) (by omega), by omega⟩, ⟨Int.mul_nonneg (by omega) (by omega), by omega⟩⟩
/-- another SITE lies within the box -/
def g_cov (σ : mp_S) (z : Int) (i c o : Nat) : Bool := decide (g_l σ z i c < s_x σ o * z ∧ s_x σ o * z < g_l σ z i c + g_bw σ i ∧ g_b σ z i c < s_y σ o * z ∧ s_y σ o * z < g_b σ z i c + g_bh σ i)
/-- ALLOWED, and within THE MAP -/
def g_in (σ : mp_S) (z : Int) (i c : Nat) : Bool := s_al σ i c && decide (0 ≤ g_l σ z i c ∧ g_l σ z i c + g_bw σ i ≤ s_W σ * z ∧ 0 ≤ g_b σ z i c ∧ g_b σ z i c + g_bh σ i ≤ s_H σ * z)
/-- FREE, where the SITES of aw are taken away -/
def g_free (σ : mp_S) (z : Int) (aw : Nat → Bool) (i c : Nat) : Bool := g_in σ z i c && (List.range (s_n σ)).all (fun o => aw o || !g_cov σ z i c o)
def g_clash (σ : mp_S) (z : Int) (i c j e : Nat) : Bool := decide (g_l σ z i c < g_l σ z j e + g_bw σ j + s_g σ ∧ g_l σ z j e < g_l σ z i c + g_bw σ i + s_g σ ∧ g_b σ z i c < g_b σ z j e + g_bh σ j + s_g σ ∧ g_b σ z j e < g_b σ z i c + g_bh σ i + s_g σ)
theorem g_clash_sym (σ : mp_S) (z : Int) (i c j e : Nat) : g_clash σ z i c j e = g_clash σ z j e i c := by
  unfold g_clash
  apply decide_eq_decide.mpr
  constructor <;> (rintro ⟨h1, h2, h3, h4⟩; exact ⟨h2, h1, h4, h3⟩)
theorem g_cov_self {σ : mp_S} (h : s_ok σ) {z : Int} {i : Nat} (hi : i < s_n σ) (c : Nat) : g_cov σ z i c i = false := by
  obtain ⟨hx, hy, hw, hh, -, -⟩ := h.2.2.2.2.2 i hi
  have hz := h.2.2.2.1
  have a1 := bxd_rng hz.1 hz.2 hw.1 hw.2
  unfold g_cov g_l g_bw
  apply decide_eq_false
  rintro ⟨h1, h2, -, -⟩
  by_cases hc : c = 1 ∨ c = 2
  · rw [if_pos hc] at h1 h2; omega
  · rw [if_neg hc] at h1 h2; omega
/-- the boxes of SITES below k, as the class has measured them -/
def Bx (mem : am_Mem) (σ : mp_S) (z : Int) (k : Nat) : Prop := mem 8 1 = iz (s_W σ * z) ∧ mem 8 2 = iz (s_H σ * z) ∧ ∀ i, i < k → mem 9 i = iz (s_x σ i * z) ∧ mem 10 i = iz (s_y σ i * z) ∧
  ∀ c, c < 4 → mem 11 (4 * i + c) = iz (g_l σ z i c) ∧ mem 12 (4 * i + c) = iz (g_l σ z i c + g_bw σ i) ∧ mem 13 (4 * i + c) = iz (g_b σ z i c) ∧ mem 14 (4 * i + c) = iz (g_b σ z i c + g_bh σ i)
theorem Bx.keep {mem mem' : am_Mem} {σ : mp_S} {z : Int} {k : Nat} (h : Bx mem σ z k) (hk : ∀ a, 8 ≤ a → a ≤ 14 → mem' a = mem a) : Bx mem' σ z k := by
  unfold Bx at *
  rw [hk 8 (by omega) (by omega), hk 9 (by omega) (by omega), hk 10 (by omega) (by omega), hk 11 (by omega) (by omega), hk 12 (by omega) (by omega), hk 13 (by omega) (by omega), hk 14 (by omega) (by omega)]
  exact h
