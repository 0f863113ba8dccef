/-! what the reference's one pass over the candidates needs; bounds; gcd, derivative, value -/
section
variable {q : Nat}
theorem fd_b9 (hq : q = 1 ∨ q = 2 ∨ q = 4) : (q + 1) ^ 9 ≤ 1953125 := by
  rcases hq with rfl | rfl | rfl <;> decide
theorem fd_bq (hq : q = 1 ∨ q = 2 ∨ q = 4) : q + 1 ≤ 5 := by omega
/-- no monic divisor below c -/
def fd_N (q c y : Nat) : Prop := ∀ l, fd_M q l → l < c → fd_rm q y l ≠ 0
/-- monic or 1 -/
def fd_Y (q y : Nat) : Prop := (q + 1) ^ fd_dg q y ≤ y ∧ y < 2 * (q + 1) ^ fd_dg q y ∧ y < (q + 1) ^ 9
theorem fd_Y0 {y : Nat} (h : fd_Y q y) : 0 < y := Nat.lt_of_lt_of_le (fd_pp q _) h.1
theorem fd_YM {y : Nat} (h : fd_Y q y) (h1 : 1 ≤ fd_dg q y) : fd_M q y := ⟨fd_dg q y, h1, fd_dg8 h.2.2, h.1, h.2.1⟩
theorem fd_Y1 {y : Nat} (h : fd_Y q y) (h1 : fd_dg q y = 0) : y = 1 := by
  obtain ⟨a, b, _⟩ := h
  rw [h1, Nat.pow_zero] at a b
  omega
theorem fd_Y2 (hq : q = 1 ∨ q = 2 ∨ q = 4) {y : Nat} (h : fd_Y q y) (h1 : 1 ≤ fd_dg q y) : 1 < y := by
  have a := h.1
  have b := fd_pm q h1
  rw [Nat.pow_one] at b
  have := fd_q1 hq
  omega
theorem fd_Ymo (hq : q = 1 ∨ q = 2 ∨ q = 4) {x : Nat} (h0 : 0 < x) (hx : x < (q + 1) ^ 9) : fd_Y q (fd_mo q x) := by
  obtain ⟨a, b⟩ := fd_mob hq h0 hx
  have e := (fd_Md hq (fd_dg8 hx) a b).2.2.1
  unfold fd_Y
  rw [e]
  exact ⟨a, b, fd_mo9 x⟩
theorem fd_Yq (hq : q = 1 ∨ q = 2 ∨ q = 4) {y c : Nat} (h : fd_Y q y) (hc : fd_M q c) (hr : fd_rm q y c = 0) : fd_Y q (fd_qt q y c) := by
  have y0 := fd_Y0 h
  obtain ⟨a, b, y9⟩ := h
  obtain ⟨c0, c9, c1, _, c5, _⟩ := fd_M0 hq hc
  obtain ⟨k1, k2, k3, k4⟩ := fd_cof hq y9 y0 c0 c9 hr
  have h9 := fd_qt9 hq y9 c0 c9
  have t := (fd_Md hq (fd_dg8 y9) a b).2.2.2.2
  have e := fd_dvs hq y9 c0 c9 hr
  have w := (fs_deg (fd_D q c) (fd_dg q c) (fd_Dabove c0 c9) _ (fd_D q (fd_qt q y c)) (fd_Dabove k1 h9)).1
  have v : fd_D q y (fd_dg q y) = fs_cv (fd_dg q (fd_qt q y c) + fd_dg q c) (fd_D q (fd_qt q y c)) (fd_D q c) := by
    rw [e, k3]
    rfl
  rw [w, t, c5] at v
  have u : fd_D q (fd_qt q y c) (fd_dg q (fd_qt q y c)) = 1 := fs_re v rfl
  obtain ⟨z1, z2⟩ := fd_mk hq h9 (fd_Dabove k1 h9) u
  exact ⟨z1, z2, h9⟩
theorem fd_Yw (hq : q = 1 ∨ q = 2 ∨ q = 4) {c : Nat} (hc : fd_M q c) : ∀ n y, fd_Y q y → fd_Y q (fd_wo q c n y) := by
  intro n
  induction n with
  | zero => intro y h; exact h
  | succ n ih =>
    intro y h
    simp only [fd_wo]
    rcases Classical.em (fd_rm q y c = 0) with z | z
    · rw [if_pos z]; exact ih _ (fd_Yq hq h hc z)
    · rw [if_neg z]; exact h
theorem fd_ctk (hq : q = 1 ∨ q = 2 ∨ q = 4) {x n k : Nat} (x0 : 0 < x) (hx : x < (q + 1) ^ 9) (hn : fd_dg q x ≤ n) (hk : n ≤ k) : fd_ct q k x = fd_ct q n x := by
  have a := (fd_ctS hq n x x0 hx hn).2
  have b := (fd_ctS hq k x x0 hx (by omega)).2
  have c : ∀ i, i < fd_ct q n x ↔ i < fd_ct q k x := fun i => (a i).symm.trans (b i)
  have c1 := c (fd_ct q n x)
  have c2 := c (fd_ct q k x)
  omega
theorem fd_ct1 (hq : q = 1 ∨ q = 2 ∨ q = 4) {x : Nat} (x0 : 0 < x) (hx : x < (q + 1) ^ 9) (h1 : 1 ≤ fd_dg q x) : fd_ct q 8 x = fd_ct q 8 (fd_nx q x) + 1 := by
  obtain ⟨s1, s2, s3, s4, s5, s6, s7⟩ := fd_nxS hq x0 hx h1
  have h8 := fd_dg8 hx
  rw [fd_ctk hq s1 s2 (show fd_dg q (fd_nx q x) ≤ 7 by omega) (show 7 ≤ 8 by omega)]
  show (if 1 ≤ fd_dg q x then fd_ct q 7 (fd_nx q x) + 1 else 0) = _
  rw [if_pos h1]
theorem fd_ct0 {x : Nat} (h : fd_dg q x = 0) : ∀ n, fd_ct q n x = 0 := by
  intro n
  cases n with
  | zero => rfl
  | succ n =>
    simp only [fd_ct]
    rw [if_neg (by omega)]
/-- how the pass ends: the factors of y, from place j on -/
def fd_G (q y j : Nat) (fa og fa' og' : Nat → Int32) : Prop :=
  (∀ i, i < j → fa' i = fa i ∧ og' i = og i) ∧ ∀ t, t < fd_ct q 8 y → fa' (j + t) = nI (fd_lf q (fd_it q t y)) ∧ og' (j + t) = nI (fd_mu q (fd_lf q (fd_it q t y)) 8 (fd_it q t y))
theorem fd_G1 (hq : q = 1 ∨ q = 2 ∨ q = 4) {y j : Nat} {fa og fa' og' : Nat → Int32} (y0 : 0 < y) (hy : y < (q + 1) ^ 9) (h1 : 1 ≤ fd_dg q y) (h : fd_G q (fd_nx q y) (j + 1) (upd fa j (nI (fd_lf q y))) (upd og j (nI (fd_mu q (fd_lf q y) 8 y))) fa' og') : fd_G q y j fa og fa' og' := by
  obtain ⟨a, b⟩ := h
  refine ⟨fun i hi => ?_, fun t ht => ?_⟩
  · have k := a i (by omega)
    rw [pk_un (by omega), pk_un (by omega)] at k
    exact k
  · cases t with
    | zero =>
      have k := a j (by omega)
      rw [pk_us, pk_us] at k
      exact k
    | succ t =>
      rw [fd_ct1 hq y0 hy h1] at ht
      have k := b t (by omega)
      have e : j + 1 + t = j + (t + 1) := by omega
      rw [e] at k
      exact k
theorem fd_G0 {y j : Nat} {fa og : Nat → Int32} (h : fd_dg q y = 0) : fd_G q y j fa og fa og :=
  ⟨fun _ _ => ⟨rfl, rfl⟩, fun t ht => by rw [fd_ct0 h] at ht; omega⟩
theorem fd_NF (hq : q = 1 ∨ q = 2 ∨ q = 4) {y c : Nat} (y0 : 0 < y) (hy : y < (q + 1) ^ 9) (hN : fd_N q c y) (hc : fd_M q c) (hr : fd_rm q y c = 0) : 1 ≤ fd_dg q y ∧ fd_lf q y = c := by
  obtain ⟨c0, c9, c1, _⟩ := fd_M0 hq hc
  have := (fd_cof hq hy y0 c0 c9 hr).2.2.1
  have h1 : 1 ≤ fd_dg q y := by omega
  exact ⟨h1, fd_Fu (fd_lfF hq hy h1) ⟨hc, hr, hN⟩⟩
theorem fd_Nw (hq : q = 1 ∨ q = 2 ∨ q = 4) {y c : Nat} (y0 : 0 < y) (hy : y < (q + 1) ^ 9) (hN : fd_N q c y) (hc : fd_M q c) : fd_N q (c + 1) (fd_wo q c 8 y) := by
  obtain ⟨a1, a2, a3, a4, a5, a6⟩ := fd_woS hq hc 8 y y0 hy (fd_dg8 hy)
  intro l hl hlc z
  rcases Nat.lt_or_ge l c with w | w
  · exact hN l hl w (a6 l hl z)
  · have : l = c := by omega
    rw [this] at z
    exact a3 z
theorem fd_Ns {y c : Nat} (hN : fd_N q c y) (hr : fd_rm q y c ≠ 0) : fd_N q (c + 1) y := by
  intro l hl hlc z
  rcases Nat.lt_or_ge l c with w | w
  · exact hN l hl w z
  · have : l = c := by omega
    rw [this] at z
    exact hr z
theorem fd_N0 (hq : q = 1 ∨ q = 2 ∨ q = 4) {y : Nat} (y0 : 0 < y) (hy : y < (q + 1) ^ 9) (h : fd_dg q y = 0) (c : Nat) : fd_N q c y := by
  intro l hl _ z
  exact fd_nd hq hl y0 hy (by have := (fd_M0 hq hl).2.2.1; omega) z
theorem fd_Np (hq : q = 1 ∨ q = 2 ∨ q = 4) {y : Nat} : fd_N q (q + 1) y := by
  intro l hl hlc z
  obtain ⟨_, _, c1, _, _, c6, _⟩ := fd_M0 hq hl
  have := fd_pm q c1
  rw [Nat.pow_one] at this
  omega
theorem fd_Nd (hq : q = 1 ∨ q = 2 ∨ q = 4) {y d : Nat} (h : fd_N q (2 * (q + 1) ^ d) y) : fd_N q ((q + 1) ^ (d + 1)) y := by
  intro l hl hlc z
  obtain ⟨_, _, c1, _, _, c6, c7⟩ := fd_M0 hq hl
  refine h l hl ?_ z
  rcases Nat.lt_or_ge d (fd_dg q l) with w | w
  · have := fd_pm q (show d + 1 ≤ fd_dg q l by omega)
    omega
  · have := fd_pm q w
    omega
theorem fd_rfl (hq : q = 1 ∨ q = 2 ∨ q = 4) {y : Nat} (y0 : 0 < y) (hy : y < (q + 1) ^ 9) : fd_rm q y y = 0 := by
  refine fd_self hq hy hy y0 ⟨1, 1, fs_rc 1, ?_⟩
  funext i
  exact (fs_rc _).symm
theorem fd_Ne (hq : q = 1 ∨ q = 2 ∨ q = 4) {y : Nat} (hY : fd_Y q y) (h : fd_N q (2 * (q + 1) ^ 8) y) : fd_dg q y = 0 := by
  rcases Nat.eq_zero_or_pos (fd_dg q y) with z | z
  · exact z
  · exfalso
    refine h y (fd_YM hY z) ?_ (fd_rfl hq (fd_Y0 hY) hY.2.2)
    have := fd_pm q (fd_dg8 hY.2.2)
    have := hY.2.1
    omega
theorem fd_big (hq : q = 1 ∨ q = 2 ∨ q = 4) {y c d l : Nat} (hY : fd_Y q y) (hd : fd_dg q y < 2 * d) (hc : (q + 1) ^ d ≤ c) (hN : fd_N q c y) (hl : fd_M q l) (hr : fd_rm q y l = 0) : l = y := by
  have y0 := fd_Y0 hY
  have y9 := hY.2.2
  obtain ⟨c0, c9, c1, _, c5, c6, c7⟩ := fd_M0 hq hl
  obtain ⟨k1, k2, k3, k4⟩ := fd_cof hq y9 y0 c0 c9 hr
  have key : ∀ m, fd_M q m → fd_rm q y m = 0 → d ≤ fd_dg q m := by
    intro m hm hmr
    rcases Nat.lt_or_ge (fd_dg q m) d with w | w
    · exfalso
      have b := (fd_M0 hq hm).2.2.2.2.2.2
      have b2 := fd_m2 hq b
      have b3 := fd_pm q (show fd_dg q m + 1 ≤ d by omega)
      exact hN m hm (by omega) hmr
    · exact w
  rcases Nat.eq_zero_or_pos (fd_dg q (fd_qt q y l)) with z | z
  · exact (fd_MM hq (fd_YM hY (by omega)) hl hr (by omega)).symm
  · exfalso
    obtain ⟨x1, x2⟩ := fd_moM hq k1 (fd_qt9 hq y9 c0 c9) z
    have a1 := key _ x1 k2
    have a2 := key _ hl hr
    omega
theorem fd_Nbig (hq : q = 1 ∨ q = 2 ∨ q = 4) {y c d : Nat} (hY : fd_Y q y) (hd : fd_dg q y < 2 * d) (hc : (q + 1) ^ d ≤ c) (hN : fd_N q c y) : fd_N q y y ∧ (¬ (1 ≤ fd_dg q y ∧ y < 2 * (q + 1) ^ d ∧ c ≤ y) → fd_N q (2 * (q + 1) ^ d) y) := by
  have y0 := fd_Y0 hY
  have y9 := hY.2.2
  constructor
  · intro l hl hly z
    have := fd_big hq hY hd hc hN hl z
    omega
  · intro hn l hl hll z
    have e := fd_big hq hY hd hc hN hl z
    rcases Nat.eq_zero_or_pos (fd_dg q y) with w | w
    · exact fd_N0 hq y0 y9 w (l + 1) l hl (by omega) z
    · rcases Nat.lt_or_ge y c with v | v
      · exact hN y (fd_YM hY w) v (fd_rfl hq y0 y9)
      · exact hn ⟨w, by omega, v⟩
/-- the common divisor before it is made monic -/
def fd_gc (q : Nat) : Nat → Nat → Nat → Nat
  | 0, u, _ => u
  | n + 1, u, v => if v = 0 then u else fd_gc q n v (fd_rm q u v)
theorem fd_gck (hq : q = 1 ∨ q = 2 ∨ q = 4) : ∀ n u v, u < (q + 1) ^ 9 → v < (q + 1) ^ 9 → fd_ln q v ≤ n → fd_gc q n u v < (q + 1) ^ 9 ∧ ∀ k, n ≤ k → fd_gc q k u v = fd_gc q n u v := by
  intro n
  induction n with
  | zero =>
    intro u v hu hv hn
    have z : v = 0 := by
      rcases Nat.eq_zero_or_pos v with z | z
      · exact z
      · have := fd_lp hv z; omega
    refine ⟨hu, fun k _ => ?_⟩
    cases k with
    | zero => rfl
    | succ k => simp only [fd_gc]; rw [if_pos z]
  | succ n ih =>
    intro u v hu hv hn
    rcases Nat.eq_zero_or_pos v with z | z
    · refine ⟨by simp only [fd_gc]; rw [if_pos z]; exact hu, fun k _ => ?_⟩
      cases k with
      | zero => simp only [fd_gc]; rw [if_pos z]
      | succ k => simp only [fd_gc]; rw [if_pos z, if_pos z]
    · have d1 := (fd_div hq hu z hv).1
      have s9 := fd_rm9 hq hu z hv
      have l1 := fd_ll s9 d1
      have l2 := fd_dg1 z hv
      obtain ⟨a, b⟩ := ih v (fd_rm q u v) hv s9 (by omega)
      have nz : ¬ v = 0 := by omega
      refine ⟨by simp only [fd_gc]; rw [if_neg nz]; exact a, fun k hk => ?_⟩
      cases k with
      | zero => omega
      | succ k => simp only [fd_gc]; rw [if_neg nz, if_neg nz]; exact b k (by omega)
/-- the derivative -/
def fd_de (q x : Nat) : Nat → Nat
  | 0 => 0
  | i + 1 => fd_de q x i + x / (q + 1) ^ (i + 1) % (q + 1) * (i + 1) % (q + 1) * (q + 1) ^ i
theorem fd_del (x : Nat) : ∀ n, fd_de q x n < (q + 1) ^ n := by
  intro n
  induction n with
  | zero => exact Nat.one_pos
  | succ n ih =>
    have h : x / (q + 1) ^ (n + 1) % (q + 1) * (n + 1) % (q + 1) < q + 1 := Nat.mod_lt _ (by omega)
    have h2 := Nat.mul_le_mul_right ((q + 1) ^ n) (Nat.le_of_lt_succ h)
    have e : (q + 1) ^ (n + 1) = q * (q + 1) ^ n + (q + 1) ^ n := by rw [fd_ps, Nat.mul_comm, Nat.succ_mul]
    simp only [fd_de]
    omega
/-- the value -/
def fd_va (q x t : Nat) : Nat → Nat → Nat
  | 0, v => v
  | i + 1, v => fd_va q x t i ((v * t + x / (q + 1) ^ i) % (q + 1))
theorem fd_vam (q x t i v : Nat) : (v * t + x / (q + 1) ^ i % (q + 1)) % (q + 1) = (v * t + x / (q + 1) ^ i) % (q + 1) := by
  rw [Nat.add_mod, Nat.mod_mod, ← Nat.add_mod]
end
