/-! division of codes -/
def fd_st (q d v y i : Nat) (s : Nat × Nat) : Nat × Nat :=
  (s.1 + s.2 / (q + 1) ^ (d + i) * v % (q + 1) * (q + 1) ^ i, fd_c q s.2 (q + 1 - s.2 / (q + 1) ^ (d + i) * v % (q + 1)) (y * (q + 1) ^ i) 9)
def fd_dv (q d v y : Nat) : Nat → Nat × Nat → Nat × Nat
  | 0, s => s
  | i + 1, s => fd_dv q d v y i (fd_st q d v y i s)
def fd_I (q d y x i : Nat) (s : Nat × Nat) : Prop :=
  s.2 < (q + 1) ^ (d + i) ∧ (∃ w, w < (q + 1) ^ (9 - d - i) ∧ s.1 = w * (q + 1) ^ i) ∧ fd_D q x = fun n => fs_m (fd_D q s.1) (fd_D q y) n + fd_D q s.2 n
theorem fd_Ylt {q d y i : Nat} (hy : y < (q + 1) ^ (d + 1)) : y * (q + 1) ^ i < (q + 1) ^ (d + 1 + i) := by
  rw [Nat.pow_add]
  exact Nat.mul_lt_mul_of_pos_right hy (fd_pp q i)
theorem fd_o1 (q : Nat) : Fin.ofNat (q + 1) 1 = 1 := rfl
theorem fd_stI {q d v y x i : Nat} {s : Nat × Nat} (hy : y < (q + 1) ^ (d + 1)) (hv : y / (q + 1) ^ d * v % (q + 1) = 1) (hi : d + (i + 1) ≤ 9) (h : fd_I q d y x (i + 1) s) : fd_I q d y x i (fd_st q d v y i s) := by
  obtain ⟨a, r⟩ := s
  obtain ⟨hr, ⟨w, hw, ha⟩, hD⟩ := h
  dsimp only at hr ha hD
  generalize hc : r / (q + 1) ^ (d + i) * v % (q + 1) = c
  have hc1 : c < q + 1 := by rw [← hc]; exact Nat.mod_lt _ (by omega)
  have hr9 : r < (q + 1) ^ 9 := Nat.lt_of_lt_of_le hr (fd_pm q hi)
  have hY9 : y * (q + 1) ^ i < (q + 1) ^ 9 := Nat.lt_of_lt_of_le (fd_Ylt hy) (fd_pm q (by omega))
  have e2 := fd_Dc (k := q + 1 - c) hr9 hY9
  rw [fd_Dsh] at e2
  have e1 := fd_Dt (q := q) (w := w) (i := i) hc1
  rw [← ha] at e1
  have hs : fd_st q d v y i (a, r) = (a + c * (q + 1) ^ i, fd_c q r (q + 1 - c) (y * (q + 1) ^ i) 9) := by simp only [fd_st, hc]
  have ho : Fin.ofNat (q + 1) c + Fin.ofNat (q + 1) (q + 1 - c) = 0 := by
    rw [← fd_oa, Nat.add_sub_cancel' (Nat.le_of_lt hc1), fd_op]
  rw [hs]
  refine ⟨?_, ⟨w * (q + 1) + c, ?_, ?_⟩, ?_⟩
  · show fd_c q r (q + 1 - c) (y * (q + 1) ^ i) 9 < (q + 1) ^ (d + i)
    refine fd_sm (fd_clt q r _ _ 9) (fun j hj => ?_)
    have z : ¬ j < i := by omega
    have es : fs_sh i (fd_D q y) j = fd_D q y (j - i) := by simp [fs_sh, z]
    rw [e2]
    show fd_D q r j + Fin.ofNat (q + 1) (q + 1 - c) * fs_sh i (fd_D q y) j = 0
    rw [es]
    rcases Nat.lt_or_ge (d + i) j with y1 | y1
    · exact fs_r2 (fd_D0 hr (by omega)) (fd_D0 hy (by omega))
    · have ej : j = d + i := by omega
      have ei : j - i = d := by omega
      rw [ei, ej]
      have h3 : Fin.ofNat (q + 1) c = fd_D q r (d + i) * Fin.ofNat (q + 1) v := by
        rw [← hc, fd_or, fd_om]
        rfl
      have h4 : fd_D q y d * Fin.ofNat (q + 1) v = 1 := by
        show Fin.ofNat (q + 1) (y / (q + 1) ^ d) * Fin.ofNat (q + 1) v = 1
        rw [← fd_om, ← fd_or, hv, fd_o1]
      exact fs_r1 ho h3 h4
  · have e : 9 - d - i = (9 - d - (i + 1)) + 1 := by omega
    rw [e, fd_ps]
    have := Nat.mul_le_mul_right (q + 1) (Nat.succ_le_of_lt hw)
    rw [Nat.succ_mul] at this
    omega
  · show a + c * (q + 1) ^ i = (w * (q + 1) + c) * (q + 1) ^ i
    rw [ha, fd_ps, Nat.add_mul, Nat.mul_comm ((q + 1) ^ i) (q + 1), Nat.mul_assoc]
  · show fd_D q x = fun n => fs_m (fd_D q (a + c * (q + 1) ^ i)) (fd_D q y) n + fd_D q (fd_c q r (q + 1 - c) (y * (q + 1) ^ i) 9) n
    rw [hD, e1, e2, fs_mdl, fs_mt]
    funext n
    exact fs_r3 ho
theorem fd_dvI {q d v y x : Nat} (hy : y < (q + 1) ^ (d + 1)) (hv : y / (q + 1) ^ d * v % (q + 1) = 1) : ∀ (i : Nat) (s : Nat × Nat), d + i ≤ 9 → fd_I q d y x i s → fd_I q d y x 0 (fd_dv q d v y i s) := by
  intro i
  induction i with
  | zero => intro s _ h; exact h
  | succ i ih => intro s hi h; exact ih _ (by omega) (fd_stI hy hv hi h)
theorem fd_st0 {q d v y i : Nat} {s : Nat × Nat} (hs : s.2 < (q + 1) ^ (d + i)) (h9 : d + i ≤ 9) : fd_st q d v y i s = s := by
  have e : s.2 / (q + 1) ^ (d + i) * v % (q + 1) = 0 := by
    rw [Nat.div_eq_of_lt hs, Nat.zero_mul, Nat.zero_mod]
  simp only [fd_st, e]
  rw [Nat.zero_mul, Nat.add_zero, Nat.sub_zero, fd_cp (Nat.mod_self _) (Nat.lt_of_lt_of_le hs (fd_pm q h9))]
theorem fd_dv0 {q d v y i : Nat} {s : Nat × Nat} (hs : s.2 < (q + 1) ^ (d + i)) : ∀ k, d + i + k ≤ 9 → fd_dv q d v y (i + k) s = fd_dv q d v y i s := by
  intro k
  induction k with
  | zero => intro _; rfl
  | succ k ih =>
    intro h
    have e : fd_dv q d v y (i + (k + 1)) s = fd_dv q d v y (i + k) (fd_st q d v y (i + k) s) := rfl
    rw [e, fd_st0 (Nat.lt_of_lt_of_le hs (fd_pm q (by omega))) (by omega)]
    exact ih (by omega)
/-- the inverse of a digit -/
def fd_iv (q k : Nat) : Nat := k ^ (q - 1) % (q + 1)
theorem fd_ivd : ∀ q, (q = 1 ∨ q = 2 ∨ q = 4) → ∀ k, k < q + 1 → 1 ≤ k → 1 ≤ fd_iv q k ∧ fd_iv q k < q + 1 ∧ k * fd_iv q k % (q + 1) = 1 ∧ ∀ c, c < q + 1 → c * k % (q + 1) = 1 → c = fd_iv q k := by
  intro q hq
  rcases hq with rfl | rfl | rfl <;> decide
def fd_dg (q y : Nat) : Nat := fd_ln q y - 1
def fd_ld (q y : Nat) : Nat := y / (q + 1) ^ fd_dg q y
def fd_qr (q x y : Nat) : Nat × Nat := fd_dv q (fd_dg q y) (fd_iv q (fd_ld q y)) y (9 - fd_dg q y) (0, x)
def fd_qt (q x y : Nat) : Nat := (fd_qr q x y).1
def fd_rm (q x y : Nat) : Nat := (fd_qr q x y).2
section
variable {q : Nat}
theorem fd_dg1 {y : Nat} (h0 : 0 < y) (hy : y < (q + 1) ^ 9) : fd_dg q y + 1 = fd_ln q y := by
  have := fd_lp hy h0
  unfold fd_dg
  omega
theorem fd_dg8 {y : Nat} (hy : y < (q + 1) ^ 9) : fd_dg q y ≤ 8 := by
  have := fd_l9 hy
  unfold fd_dg
  omega
theorem fd_dgu {y : Nat} (h0 : 0 < y) (hy : y < (q + 1) ^ 9) : y < (q + 1) ^ (fd_dg q y + 1) := by
  rw [fd_dg1 h0 hy]
  exact fd_l1 hy
theorem fd_dgl {y : Nat} (h0 : 0 < y) (hy : y < (q + 1) ^ 9) : (q + 1) ^ fd_dg q y ≤ y := fd_l2 hy h0
theorem fd_ldb {y : Nat} (h0 : 0 < y) (hy : y < (q + 1) ^ 9) : 1 ≤ fd_ld q y ∧ fd_ld q y < q + 1 := by
  refine ⟨Nat.div_pos (fd_dgl h0 hy) (fd_pp q _), ?_⟩
  unfold fd_ld
  rw [Nat.div_lt_iff_lt_mul (fd_pp q _), Nat.mul_comm, ← fd_ps]
  exact fd_dgu h0 hy
theorem fd_Dtop {y : Nat} (h0 : 0 < y) (hy : y < (q + 1) ^ 9) : fd_D q y (fd_dg q y) ≠ 0 := fd_top (fd_dgl h0 hy) (fd_dgu h0 hy)
theorem fd_Dabove {y : Nat} (h0 : 0 < y) (hy : y < (q + 1) ^ 9) : ∀ i, fd_dg q y < i → fd_D q y i = 0 := fun _ hi => fd_D0 (fd_dgu h0 hy) hi
theorem fd_div {x y : Nat} (hq : q = 1 ∨ q = 2 ∨ q = 4) (hx : x < (q + 1) ^ 9) (h0 : 0 < y) (hy : y < (q + 1) ^ 9) : fd_rm q x y < (q + 1) ^ fd_dg q y ∧ fd_qt q x y < (q + 1) ^ (9 - fd_dg q y) ∧ fd_D q x = fun n => fs_m (fd_D q (fd_qt q x y)) (fd_D q y) n + fd_D q (fd_rm q x y) n := by
  obtain ⟨b1, b2⟩ := fd_ldb h0 hy
  have h8 := fd_dg8 hy
  have hI : fd_I q (fd_dg q y) y x (9 - fd_dg q y) (0, x) := by
    refine ⟨?_, ⟨0, fd_pp q _, by rw [Nat.zero_mul]⟩, ?_⟩
    · show x < (q + 1) ^ (fd_dg q y + (9 - fd_dg q y))
      rw [Nat.add_sub_cancel' (by omega)]
      exact hx
    · funext n
      exact fs_r6 (fs_zl _ n _ (fd_Dz q))
  obtain ⟨c1, ⟨w, c2, c3⟩, c4⟩ := fd_dvI (fd_dgu h0 hy) (fd_ivd q hq _ b2 b1).2.2.1 _ _ (by omega) hI
  refine ⟨c1, ?_, c4⟩
  have e : fd_qt q x y = w := by
    rw [Nat.pow_zero, Nat.mul_one] at c3
    exact c3
  rw [e]
  exact c2
theorem fd_rml {x y : Nat} (hq : q = 1 ∨ q = 2 ∨ q = 4) (hx : x < (q + 1) ^ 9) (h0 : 0 < y) (hy : y < (q + 1) ^ 9) : fd_rm q x y < y := Nat.lt_of_lt_of_le (fd_div hq hx h0 hy).1 (fd_dgl h0 hy)
theorem fd_rm9 {x y : Nat} (hq : q = 1 ∨ q = 2 ∨ q = 4) (hx : x < (q + 1) ^ 9) (h0 : 0 < y) (hy : y < (q + 1) ^ 9) : fd_rm q x y < (q + 1) ^ 9 := Nat.lt_trans (fd_rml hq hx h0 hy) hy
theorem fd_qt9 {x y : Nat} (hq : q = 1 ∨ q = 2 ∨ q = 4) (hx : x < (q + 1) ^ 9) (h0 : 0 < y) (hy : y < (q + 1) ^ 9) : fd_qt q x y < (q + 1) ^ 9 := Nat.lt_of_lt_of_le (fd_div hq hx h0 hy).2.1 (fd_pm q (by omega))
theorem fd_unq {x y : Nat} (hq : q = 1 ∨ q = 2 ∨ q = 4) (hx : x < (q + 1) ^ 9) (h0 : 0 < y) (hy : y < (q + 1) ^ 9) {a : Nat → Fin (q + 1)} (ha : fs_P a) (h : fd_D q x = fs_m a (fd_D q y)) : fd_rm q x y = 0 ∧ a = fd_D q (fd_qt q x y) := by
  obtain ⟨h1, h2, h3⟩ := fd_div hq hx h0 hy
  have h9 := fd_qt9 hq hx h0 hy
  have e : ∀ n, fs_m (fun i => a i - fd_D q (fd_qt q x y) i) (fd_D q y) n = fd_D q (fd_rm q x y) n := by
    intro n
    rw [fs_msl]
    exact fs_r4 (congrFun (h.symm.trans h3) n)
  have z := fs_can (fd_nz hq) (fs_Ps ha (fd_P h9)) (fd_Dtop h0 hy) (fd_Dabove h0 hy) (fun n hn => by rw [e n]; exact fd_D0 h1 hn)
  refine ⟨?_, funext fun i => fs_r5 (z i)⟩
  refine fd_inj (fd_rm9 hq hx h0 hy) (fd_pp q 9) (funext fun n => ?_)
  rw [← e n, fd_Dz]
  exact fs_zl _ n _ z
theorem fd_dvs {x y : Nat} (hq : q = 1 ∨ q = 2 ∨ q = 4) (hx : x < (q + 1) ^ 9) (h0 : 0 < y) (hy : y < (q + 1) ^ 9) (h : fd_rm q x y = 0) : fd_D q x = fs_m (fd_D q (fd_qt q x y)) (fd_D q y) := by
  obtain ⟨h1, h2, h3⟩ := fd_div hq hx h0 hy
  rw [h3, h]
  funext n
  exact fs_r7 (fd_Dz q n)
end
