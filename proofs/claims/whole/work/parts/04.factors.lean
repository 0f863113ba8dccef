/-! monic codes, divisors, least factors -/
section
variable {q : Nat}
theorem fd_sc0 {x : Nat} {c : Fin (q + 1)} {y : Nat} (hy : y < (q + 1) ^ 9) (h : fd_D q y = fun i => c * fd_D q x i) (hx : x = 0) : y = 0 := by
  refine fd_inj hy (fd_pp q 9) (funext fun i => ?_)
  rw [h, hx]
  show c * fd_D q 0 i = fd_D q 0 i
  rw [fd_Dz]
  exact fs_rz c
theorem fd_mz {a b x : Nat} (hx : x < (q + 1) ^ 9) (h : fd_D q x = fs_m (fd_D q a) (fd_D q b)) (ha : a = 0) : x = 0 := by
  refine fd_inj hx (fd_pp q 9) (funext fun i => ?_)
  rw [h, ha, fd_Dz]
  exact fs_zl _ i _ (fd_Dz q)
theorem fd_degm (hq : q = 1 ∨ q = 2 ∨ q = 4) {a b x : Nat} (ha : a < (q + 1) ^ 9) (hb : b < (q + 1) ^ 9) (hx : x < (q + 1) ^ 9) (h0 : 0 < x) (h : fd_D q x = fs_m (fd_D q a) (fd_D q b)) : 0 < a ∧ 0 < b ∧ fd_dg q x = fd_dg q a + fd_dg q b ∧ fd_ln q x + 1 = fd_ln q a + fd_ln q b := by
  have ha0 : 0 < a := by
    rcases Nat.eq_zero_or_pos a with z | z
    · have := fd_mz hx h z; omega
    · exact z
  have hb0 : 0 < b := by
    rcases Nat.eq_zero_or_pos b with z | z
    · have := fd_mz hx (h.trans (fs_mc _ _)) z; omega
    · exact z
  obtain ⟨e1, e2⟩ := fs_deg (fd_D q b) (fd_dg q b) (fd_Dabove hb0 hb) (fd_dg q a) (fd_D q a) (fd_Dabove ha0 ha)
  have n1 : fd_D q x (fd_dg q a + fd_dg q b) ≠ 0 := by
    rw [h]
    show fs_cv (fd_dg q a + fd_dg q b) (fd_D q a) (fd_D q b) ≠ 0
    rw [e1]
    intro z
    rcases fd_nz hq _ _ z with y | y
    · exact fd_Dtop ha0 ha y
    · exact fd_Dtop hb0 hb y
  have l8 : fd_dg q a + fd_dg q b ≤ 8 := by
    rcases Nat.lt_or_ge (fd_dg q a + fd_dg q b) 9 with z | z
    · omega
    · exact absurd (fd_D0 hx z) n1
  have u1 : x < (q + 1) ^ (fd_dg q a + fd_dg q b + 1) := by
    refine fd_sm hx (fun j hj => ?_)
    rw [h]
    exact e2 j (by omega)
  have u2 : (q + 1) ^ (fd_dg q a + fd_dg q b) ≤ x := by
    rcases Nat.lt_or_ge x ((q + 1) ^ (fd_dg q a + fd_dg q b)) with z | z
    · exact absurd (fd_D0 z (Nat.le_refl _)) n1
    · exact z
  have e := fd_leq l8 u2 u1
  have := fd_dg1 ha0 ha
  have := fd_dg1 hb0 hb
  have := fd_dg1 h0 hx
  exact ⟨ha0, hb0, by omega, by omega⟩
/-- monic, of degree 1 to 8 -/
def fd_M (q m : Nat) : Prop := ∃ e, 1 ≤ e ∧ e ≤ 8 ∧ (q + 1) ^ e ≤ m ∧ m < 2 * (q + 1) ^ e
theorem fd_q1 (hq : q = 1 ∨ q = 2 ∨ q = 4) : 1 ≤ q := by omega
theorem fd_m2 {e m : Nat} (hq : q = 1 ∨ q = 2 ∨ q = 4) (h : m < 2 * (q + 1) ^ e) : m < (q + 1) ^ (e + 1) := by
  rw [fd_ps, Nat.mul_comm]
  refine Nat.lt_of_lt_of_le h (Nat.mul_le_mul_right _ ?_)
  have := fd_q1 hq
  omega
theorem fd_Md {m e : Nat} (hq : q = 1 ∨ q = 2 ∨ q = 4) (he : e ≤ 8) (h1 : (q + 1) ^ e ≤ m) (h2 : m < 2 * (q + 1) ^ e) : 0 < m ∧ m < (q + 1) ^ 9 ∧ fd_dg q m = e ∧ fd_ln q m = e + 1 ∧ fd_D q m e = 1 := by
  have h3 := fd_m2 hq h2
  have e1 := fd_leq he h1 h3
  refine ⟨Nat.lt_of_lt_of_le (fd_pp q e) h1, Nat.lt_of_lt_of_le h3 (fd_pm q (by omega)), ?_, e1, ?_⟩
  · unfold fd_dg; omega
  · have e2 : m / (q + 1) ^ e = 1 := by
      refine Nat.div_eq_of_lt_le ?_ ?_
      · omega
      · omega
    apply Fin.ext
    rw [fd_Dv, e2]
    rfl
theorem fd_M0 {m : Nat} (hq : q = 1 ∨ q = 2 ∨ q = 4) (h : fd_M q m) : 0 < m ∧ m < (q + 1) ^ 9 ∧ 1 ≤ fd_dg q m ∧ fd_ln q m = fd_dg q m + 1 ∧ fd_D q m (fd_dg q m) = 1 ∧ (q + 1) ^ fd_dg q m ≤ m ∧ m < 2 * (q + 1) ^ fd_dg q m := by
  obtain ⟨e, h1, h2, h3, h4⟩ := h
  obtain ⟨a, b, c, d, f⟩ := fd_Md hq h2 h3 h4
  rw [c]
  exact ⟨a, b, h1, d, f, h3, h4⟩
theorem fd_mk {z e : Nat} (hq : q = 1 ∨ q = 2 ∨ q = 4) (hz : z < (q + 1) ^ 9) (h : ∀ j, e < j → fd_D q z j = 0) (h1 : fd_D q z e = 1) : (q + 1) ^ e ≤ z ∧ z < 2 * (q + 1) ^ e := by
  have a : z < (q + 1) ^ (e + 1) := fd_sm hz (fun j hj => h j (by omega))
  have b : z / (q + 1) ^ e < q + 1 := by
    rw [Nat.div_lt_iff_lt_mul (fd_pp q e), Nat.mul_comm, ← fd_ps]
    exact a
  have c : z / (q + 1) ^ e = 1 := by
    have := congrArg Fin.val h1
    rw [fd_Dv, Nat.mod_eq_of_lt b] at this
    rw [this]
    have := fd_q1 hq
    show 1 % (q + 1) = 1
    exact Nat.mod_eq_of_lt (by omega)
  have d := Nat.div_add_mod z ((q + 1) ^ e)
  have m := Nat.mod_lt z (fd_pp q e)
  rw [c, Nat.mul_one] at d
  generalize z % (q + 1) ^ e = w at d m
  omega
/-- the monic code beside x -/
def fd_mo (q x : Nat) : Nat := fd_c q 0 (fd_iv q (fd_ld q x)) x 9
theorem fd_mo9 (x : Nat) : fd_mo q x < (q + 1) ^ 9 := fd_clt q 0 _ x 9
theorem fd_Dmo {x : Nat} (hx : x < (q + 1) ^ 9) : fd_D q (fd_mo q x) = fun i => Fin.ofNat (q + 1) (fd_iv q (fd_ld q x)) * fd_D q x i := by
  unfold fd_mo
  rw [fd_Dc (fd_pp q 9) hx]
  funext i
  exact fs_rb (fd_Dz q i)
theorem fd_inv (hq : q = 1 ∨ q = 2 ∨ q = 4) {x : Nat} (h0 : 0 < x) (hx : x < (q + 1) ^ 9) : Fin.ofNat (q + 1) (fd_ld q x) * Fin.ofNat (q + 1) (fd_iv q (fd_ld q x)) = 1 := by
  obtain ⟨b1, b2⟩ := fd_ldb h0 hx
  rw [← fd_om, ← fd_or, (fd_ivd q hq _ b2 b1).2.2.1, fd_o1]
theorem fd_mob (hq : q = 1 ∨ q = 2 ∨ q = 4) {x : Nat} (h0 : 0 < x) (hx : x < (q + 1) ^ 9) : (q + 1) ^ fd_dg q x ≤ fd_mo q x ∧ fd_mo q x < 2 * (q + 1) ^ fd_dg q x := by
  refine fd_mk hq (fd_mo9 x) (fun j hj => ?_) ?_
  · rw [fd_Dmo hx]
    show Fin.ofNat (q + 1) (fd_iv q (fd_ld q x)) * fd_D q x j = 0
    rw [fd_Dabove h0 hx j hj]
    exact fs_rz _
  · rw [fd_Dmo hx]
    show Fin.ofNat (q + 1) (fd_iv q (fd_ld q x)) * Fin.ofNat (q + 1) (fd_ld q x) = 1
    exact fs_rd (fd_inv hq h0 hx)
theorem fd_moM (hq : q = 1 ∨ q = 2 ∨ q = 4) {x : Nat} (h0 : 0 < x) (hx : x < (q + 1) ^ 9) (h1 : 1 ≤ fd_dg q x) : fd_M q (fd_mo q x) ∧ fd_dg q (fd_mo q x) = fd_dg q x := by
  obtain ⟨a, b⟩ := fd_mob hq h0 hx
  exact ⟨⟨fd_dg q x, h1, fd_dg8 hx, a, b⟩, (fd_Md hq (fd_dg8 hx) a b).2.2.1⟩
/-- x is y times a coefficient that isn't 0 -/
def fd_S (q x y : Nat) : Prop := ∃ c c' : Fin (q + 1), c * c' = 1 ∧ fd_D q x = fun i => c * fd_D q y i
theorem fd_Ss {x y : Nat} (h : fd_S q x y) : fd_S q y x := by
  obtain ⟨c, c', h1, h2⟩ := h
  refine ⟨c', c, fs_rd h1, ?_⟩
  rw [h2]
  funext i
  exact (fs_r9 _ h1).symm
theorem fd_Smo (hq : q = 1 ∨ q = 2 ∨ q = 4) {x : Nat} (h0 : 0 < x) (hx : x < (q + 1) ^ 9) : fd_S q (fd_mo q x) x :=
  ⟨Fin.ofNat (q + 1) (fd_iv q (fd_ld q x)), Fin.ofNat (q + 1) (fd_ld q x), fs_rd (fd_inv hq h0 hx), fd_Dmo hx⟩
theorem fd_S0 {x y : Nat} (hx : x < (q + 1) ^ 9) (h : fd_S q x y) (h0 : 0 < x) : 0 < y := by
  obtain ⟨c, c', h1, h2⟩ := h
  rcases Nat.eq_zero_or_pos y with z | z
  · have := fd_sc0 hx h2 z; omega
  · exact z
theorem fd_Sl {x y : Nat} (hx : x < (q + 1) ^ 9) (hy : y < (q + 1) ^ 9) (h : fd_S q x y) (h0 : 0 < y) : fd_ln q x ≤ fd_ln q y := by
  obtain ⟨c, c', h1, h2⟩ := h
  have a := fd_l1 hy
  refine fd_ll hx (fd_sm hx (fun j hj => ?_))
  rw [h2]
  show c * fd_D q y j = 0
  rw [fd_D0 a hj]
  exact fs_rz c
theorem fd_Se {x y : Nat} (hx : x < (q + 1) ^ 9) (hy : y < (q + 1) ^ 9) (h : fd_S q x y) (h0 : 0 < x) : fd_ln q x = fd_ln q y := Nat.le_antisymm (fd_Sl hx hy h (fd_S0 hx h h0)) (fd_Sl hy hx (fd_Ss h) h0)
theorem fd_Sd (hq : q = 1 ∨ q = 2 ∨ q = 4) {x y m : Nat} (hx : x < (q + 1) ^ 9) (hy : y < (q + 1) ^ 9) (m0 : 0 < m) (hm : m < (q + 1) ^ 9) (h : fd_S q x y) (hd : fd_rm q y m = 0) : fd_rm q x m = 0 ∧ fd_S q (fd_qt q x m) (fd_qt q y m) := by
  obtain ⟨c, c', h1, h2⟩ := h
  have e := fd_dvs hq hy m0 hm hd
  have k : fd_D q x = fs_m (fun i => c * fd_D q (fd_qt q y m) i) (fd_D q m) := by
    rw [h2, e, fs_mcl]
  obtain ⟨a, b⟩ := fd_unq hq hx m0 hm (fs_Pc c (fd_P (fd_qt9 hq hy m0 hm))) k
  exact ⟨a, c, c', h1, b.symm⟩
theorem fd_Sdi (hq : q = 1 ∨ q = 2 ∨ q = 4) {x y m : Nat} (hx : x < (q + 1) ^ 9) (hy : y < (q + 1) ^ 9) (m0 : 0 < m) (hm : m < (q + 1) ^ 9) (h : fd_S q x y) : fd_rm q x m = 0 ↔ fd_rm q y m = 0 :=
  ⟨fun k => (fd_Sd hq hy hx m0 hm (fd_Ss h) k).1, fun k => (fd_Sd hq hx hy m0 hm h k).1⟩
theorem fd_tr (hq : q = 1 ∨ q = 2 ∨ q = 4) {x m l : Nat} (hx : x < (q + 1) ^ 9) (m0 : 0 < m) (hm : m < (q + 1) ^ 9) (l0 : 0 < l) (hl : l < (q + 1) ^ 9) (h1 : fd_rm q x m = 0) (h2 : fd_rm q m l = 0) : fd_rm q x l = 0 := by
  have e1 := fd_dvs hq hx m0 hm h1
  have e2 := fd_dvs hq hm l0 hl h2
  rw [e2, ← fs_ma] at e1
  exact (fd_unq hq hx l0 hl (fs_Pm (fd_P (fd_qt9 hq hx m0 hm)) (fd_P (fd_qt9 hq hm l0 hl))) e1).1
theorem fd_tq (hq : q = 1 ∨ q = 2 ∨ q = 4) {x m l : Nat} (hx : x < (q + 1) ^ 9) (m0 : 0 < m) (hm : m < (q + 1) ^ 9) (l0 : 0 < l) (hl : l < (q + 1) ^ 9) (h1 : fd_rm q x m = 0) (h2 : fd_rm q (fd_qt q x m) l = 0) : fd_rm q x l = 0 := by
  have e1 := fd_dvs hq hx m0 hm h1
  have hq9 := fd_qt9 hq hx m0 hm
  have e2 := fd_dvs hq hq9 l0 hl h2
  rw [e2, fs_mc, ← fs_ma] at e1
  exact (fd_unq hq hx l0 hl (fs_Pm (fd_P hm) (fd_P (fd_qt9 hq hq9 l0 hl))) e1).1
/-- the quotient divides too, and so does its monic code -/
theorem fd_cof (hq : q = 1 ∨ q = 2 ∨ q = 4) {x m : Nat} (hx : x < (q + 1) ^ 9) (h0 : 0 < x) (m0 : 0 < m) (hm : m < (q + 1) ^ 9) (h : fd_rm q x m = 0) : 0 < fd_qt q x m ∧ fd_rm q x (fd_mo q (fd_qt q x m)) = 0 ∧ fd_dg q x = fd_dg q (fd_qt q x m) + fd_dg q m ∧ fd_ln q x + 1 = fd_ln q (fd_qt q x m) + fd_ln q m := by
  have e1 := fd_dvs hq hx m0 hm h
  have h9 := fd_qt9 hq hx m0 hm
  obtain ⟨a, _, b, c⟩ := fd_degm hq h9 hm hx h0 e1
  refine ⟨a, ?_, b, c⟩
  obtain ⟨k, k', k1, k2⟩ := fd_Ss (fd_Smo hq a h9)
  rw [k2, fs_mcl] at e1
  have e2 : fd_D q x = fs_m (fun i => k * fd_D q m i) (fd_D q (fd_mo q (fd_qt q x m))) := by
    rw [e1, fs_mcl, fs_mc]
  have mo0 : 0 < fd_mo q (fd_qt q x m) := Nat.lt_of_lt_of_le (fd_pp q _) (fd_mob hq a h9).1
  exact (fd_unq hq hx mo0 (fd_mo9 _) (fs_Pc k (fd_P hm)) e2).1
/-- two monic codes of one degree, one divides the other -/
theorem fd_MM (hq : q = 1 ∨ q = 2 ∨ q = 4) {m l : Nat} (hm : fd_M q m) (hl : fd_M q l) (h : fd_rm q m l = 0) (hd : fd_dg q m ≤ fd_dg q l) : m = l := by
  obtain ⟨a1, a2, a3, a4, a5, _, _⟩ := fd_M0 hq hm
  obtain ⟨b1, b2, b3, b4, b5, _, _⟩ := fd_M0 hq hl
  have e1 := fd_dvs hq a2 b1 b2 h
  have h9 := fd_qt9 hq a2 b1 b2
  obtain ⟨c1, _, c3, c4⟩ := fd_cof hq a2 a1 b1 b2 h
  have c5 := fd_l1 h9
  have c6 : fd_ln q (fd_qt q m l) = 1 := by omega
  rw [c6] at c5
  have k : ∀ n, fd_D q m n = fd_D q (fd_qt q m l) 0 * fd_D q l n := by
    intro n
    rw [e1]
    exact fs_const _ _ (fun i => fd_D0 c5 (by omega)) n
  have k1 : fd_D q (fd_qt q m l) 0 = 1 := by
    have z := k (fd_dg q m)
    have ed : fd_dg q m = fd_dg q l := by omega
    rw [a5, ed, b5] at z
    exact fs_re z rfl
  refine fd_inj a2 b2 (funext fun n => ?_)
  rw [k n, k1]
  exact fs_rc _
/-- the least factor -/
def fd_F (q x m : Nat) : Prop := fd_M q m ∧ fd_rm q x m = 0 ∧ ∀ l, fd_M q l → l < m → fd_rm q x l ≠ 0
theorem fd_Fu {x m l : Nat} (h : fd_F q x m) (k : fd_F q x l) : m = l := by
  rcases Nat.lt_trichotomy m l with z | z | z
  · exact absurd h.2.1 (k.2.2 m h.1 z)
  · exact z
  · exact absurd k.2.1 (h.2.2 l k.1 z)
theorem fd_self (hq : q = 1 ∨ q = 2 ∨ q = 4) {x y : Nat} (hx : x < (q + 1) ^ 9) (hy : y < (q + 1) ^ 9) (h0 : 0 < y) (h : fd_S q x y) : fd_rm q x y = 0 := by
  obtain ⟨c, c', h1, h2⟩ := h
  have e : fd_D q x = fs_m (fs_t 0 c) (fd_D q y) := by
    rw [fs_mt, h2]
    funext n
    simp [fs_sh]
  exact (fd_unq hq hx h0 hy ⟨1, fun i hi => by have : i ≠ 0 := by omega
                                               simp [fs_t, this]⟩ e).1
theorem fd_Fe (hq : q = 1 ∨ q = 2 ∨ q = 4) {x : Nat} (hx : x < (q + 1) ^ 9) (h1 : 1 ≤ fd_dg q x) : ∃ m, fd_F q x m := by
  have h0 : 0 < x := by
    rcases Nat.eq_zero_or_pos x with z | z
    · have : fd_ln q x ≤ 0 := fd_ll hx (by rw [z]; exact fd_pp q 0)
      unfold fd_dg at h1
      omega
    · exact z
  have a := (fd_moM hq h0 hx h1).1
  have b := fd_self hq hx (fd_mo9 x) (fd_M0 hq a).1 (fd_Ss (fd_Smo hq h0 hx))
  obtain ⟨k, k1, k2⟩ := pk_least (fun k => fd_M q k ∧ fd_rm q x k = 0) ⟨_, a, b⟩
  exact ⟨k, k1.1, k1.2, fun l hl hlk z => k2 l hlk ⟨hl, z⟩⟩
theorem fd_dmono {x y : Nat} (hx : x < (q + 1) ^ 9) (hy : y < (q + 1) ^ 9) (h : x ≤ y) : fd_dg q x ≤ fd_dg q y := by
  have := fd_ll hx (Nat.lt_of_le_of_lt h (fd_l1 hy))
  unfold fd_dg
  omega
theorem fd_half (hq : q = 1 ∨ q = 2 ∨ q = 4) {x m : Nat} (hx : x < (q + 1) ^ 9) (h0 : 0 < x) (h : fd_F q x m) : 2 * fd_dg q m ≤ fd_dg q x ∨ m = fd_mo q x := by
  obtain ⟨hM, hr, hl⟩ := h
  obtain ⟨a1, a2, a3, a4, a5, _, _⟩ := fd_M0 hq hM
  obtain ⟨c1, c2, c3, c4⟩ := fd_cof hq hx h0 a1 a2 hr
  have h9 := fd_qt9 hq hx a1 a2
  rcases Nat.eq_zero_or_pos (fd_dg q (fd_qt q x m)) with z | z
  · right
    have s := fd_Smo hq h0 hx
    have x1 : 1 ≤ fd_dg q x := by omega
    obtain ⟨b, b'⟩ := fd_moM hq h0 hx x1
    exact (fd_MM hq b hM ((fd_Sdi hq (fd_mo9 x) hx a1 a2 s).mpr hr) (by omega)).symm
  · left
    obtain ⟨b, b'⟩ := fd_moM hq c1 h9 z
    rcases Nat.lt_or_ge (fd_mo q (fd_qt q x m)) m with y | y
    · exact absurd c2 (hl _ b y)
    · have := fd_dmono a2 (fd_mo9 _) y
      omega
/-- irreducible: no monic divisor but itself -/
def fd_Ir (q m : Nat) : Prop := fd_M q m ∧ ∀ l, fd_M q l → fd_rm q m l = 0 → l = m
theorem fd_FI (hq : q = 1 ∨ q = 2 ∨ q = 4) {x m : Nat} (hx : x < (q + 1) ^ 9) (h : fd_F q x m) : fd_Ir q m := by
  obtain ⟨hM, hr, hl⟩ := h
  refine ⟨hM, fun l h1 h2 => ?_⟩
  obtain ⟨a1, a2, a3, a4, a5, _, _⟩ := fd_M0 hq hM
  obtain ⟨b1, b2, b3, b4, b5, _, _⟩ := fd_M0 hq h1
  have t := fd_tr hq hx a1 a2 b1 b2 hr h2
  rcases Nat.lt_or_ge l m with y | y
  · exact absurd t (hl l h1 y)
  · exact (fd_MM hq hM h1 h2 (fd_dmono a2 b2 y)).symm
theorem fd_FS (hq : q = 1 ∨ q = 2 ∨ q = 4) {x y m : Nat} (hx : x < (q + 1) ^ 9) (hy : y < (q + 1) ^ 9) (h : fd_S q x y) (k : fd_F q y m) : fd_F q x m := by
  obtain ⟨hM, hr, hl⟩ := k
  refine ⟨hM, (fd_Sdi hq hx hy (fd_M0 hq hM).1 (fd_M0 hq hM).2.1 h).mpr hr, fun l h1 h2 z => hl l h1 h2 ((fd_Sdi hq hx hy (fd_M0 hq h1).1 (fd_M0 hq h1).2.1 h).mp z)⟩
end
