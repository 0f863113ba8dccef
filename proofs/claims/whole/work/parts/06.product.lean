/-! the product of codes, the radical -/
def fd_pr (q x y : Nat) : Nat → Nat
  | 0 => 0
  | i + 1 => fd_c q (fd_pr q x y i) (y / (q + 1) ^ i % (q + 1)) (x * (q + 1) ^ i) 9
section
variable {q : Nat}
theorem fd_pr9 (x y : Nat) : ∀ n, fd_pr q x y n < (q + 1) ^ 9 := by
  intro n
  cases n with
  | zero => exact fd_pp q 9
  | succ n => exact fd_clt q _ _ _ 9
theorem fd_Dmod (y n : Nat) : fd_D q (y % (q + 1) ^ (n + 1)) = fun i => fd_D q (y % (q + 1) ^ n) i + fs_t n (Fin.ofNat (q + 1) (y / (q + 1) ^ n % (q + 1))) i := by
  have hl := Nat.mod_lt y (fd_pp q n)
  funext i
  rw [Nat.mod_pow_succ, Nat.mul_comm]
  rcases Nat.lt_trichotomy i n with z | z | z
  · have z2 : i ≠ n := by omega
    have e : fd_D q (y % (q + 1) ^ n + y / (q + 1) ^ n % (q + 1) * (q + 1) ^ n) i = fd_D q (y % (q + 1) ^ n) i := by
      apply Fin.ext
      rw [fd_Dv, fd_lo z, fd_Dv]
    rw [e]
    have t : fs_t n (Fin.ofNat (q + 1) (y / (q + 1) ^ n % (q + 1))) i = 0 := by simp [fs_t, z2]
    exact (fs_r7 t).symm
  · subst z
    have e : fd_D q (y % (q + 1) ^ i + y / (q + 1) ^ i % (q + 1) * (q + 1) ^ i) i = Fin.ofNat (q + 1) (y / (q + 1) ^ i % (q + 1)) := by
      have k := fd_hi (b := y / (q + 1) ^ i % (q + 1)) (j := 0) hl
      rw [Nat.add_zero i, Nat.pow_zero, Nat.div_one] at k
      apply Fin.ext
      rw [fd_Dv, k]
      rfl
    have t : fs_t i (Fin.ofNat (q + 1) (y / (q + 1) ^ i % (q + 1))) i = Fin.ofNat (q + 1) (y / (q + 1) ^ i % (q + 1)) := by simp [fs_t]
    rw [e, t]
    exact (fs_rb (fd_D0 hl (Nat.le_refl _))).symm
  · have z2 : i ≠ n := by omega
    have l2 : y % (q + 1) ^ n + y / (q + 1) ^ n % (q + 1) * (q + 1) ^ n < (q + 1) ^ (n + 1) := by
      have := Nat.mod_lt y (fd_pp q (n + 1))
      rw [Nat.mod_pow_succ, Nat.mul_comm] at this
      exact this
    rw [fd_D0 l2 z]
    have t : fs_t n (Fin.ofNat (q + 1) (y / (q + 1) ^ n % (q + 1))) i = 0 := by simp [fs_t, z2]
    exact (fs_r7 t ▸ (fd_D0 hl (by omega)).symm)
theorem fd_Dpr {x y : Nat} (hx : x < (q + 1) ^ 9) (x0 : 0 < x) (y0 : 0 < y) (hy : y < (q + 1) ^ 9) (hd : fd_dg q x + fd_dg q y ≤ 8) : ∀ n, fd_D q (fd_pr q x y n) = fs_m (fd_D q (y % (q + 1) ^ n)) (fd_D q x) := by
  intro n
  induction n with
  | zero =>
    funext i
    rw [Nat.pow_zero, Nat.mod_one]
    show fd_D q 0 i = _
    rw [fd_Dz]
    exact (fs_zl _ i _ (fd_Dz q)).symm
  | succ n ih =>
    rw [fd_Dmod, fs_mdl, fs_mt]
    rcases Nat.eq_zero_or_pos (y / (q + 1) ^ n % (q + 1)) with z | z
    · have e : fd_pr q x y (n + 1) = fd_pr q x y n := by
        show fd_c q (fd_pr q x y n) (y / (q + 1) ^ n % (q + 1)) (x * (q + 1) ^ n) 9 = _
        rw [fd_cp (by rw [z, Nat.zero_mod]) (fd_pr9 x y n)]
      rw [e, ih, z]
      funext i
      exact (fs_r7 (fs_r8 _)).symm
    · have ln : n ≤ fd_dg q y := by
        rcases Nat.lt_or_ge (fd_dg q y) n with w | w
        · rw [fd_low (fd_dgu y0 hy) w, Nat.zero_mod] at z
          omega
        · exact w
      have l9 : x * (q + 1) ^ n < (q + 1) ^ 9 := Nat.lt_of_lt_of_le (fd_Ylt (fd_dgu x0 hx)) (fd_pm q (by omega))
      show fd_D q (fd_c q (fd_pr q x y n) (y / (q + 1) ^ n % (q + 1)) (x * (q + 1) ^ n) 9) = _
      rw [fd_Dc (fd_pr9 x y n) l9, ih, fd_Dsh]
theorem fd_Dprod {x y : Nat} (hx : x < (q + 1) ^ 9) (x0 : 0 < x) (y0 : 0 < y) (hy : y < (q + 1) ^ 9) (hd : fd_dg q x + fd_dg q y ≤ 8) : fd_D q (fd_pr q x y 9) = fs_m (fd_D q x) (fd_D q y) := by
  rw [fd_Dpr hx x0 y0 hy hd, Nat.mod_eq_of_lt hy, fs_mc]
theorem fd_prd (hq : q = 1 ∨ q = 2 ∨ q = 4) {x y : Nat} (hx : x < (q + 1) ^ 9) (x0 : 0 < x) (y0 : 0 < y) (hy : y < (q + 1) ^ 9) (hd : fd_dg q x + fd_dg q y ≤ 8) : 0 < fd_pr q x y 9 ∧ fd_dg q (fd_pr q x y 9) = fd_dg q x + fd_dg q y := by
  have e := fd_Dprod hx x0 y0 hy hd
  have h9 := fd_pr9 (q := q) x y 9
  have p0 : 0 < fd_pr q x y 9 := by
    rcases Nat.eq_zero_or_pos (fd_pr q x y 9) with z | z
    · exfalso
      rw [z] at e
      have k := (fs_deg (fd_D q y) (fd_dg q y) (fd_Dabove y0 hy) (fd_dg q x) (fd_D q x) (fd_Dabove x0 hx)).1
      have k2 : fd_D q 0 (fd_dg q x + fd_dg q y) = fs_cv (fd_dg q x + fd_dg q y) (fd_D q x) (fd_D q y) := congrFun e _
      rw [fd_Dz, k] at k2
      rcases fd_nz hq _ _ k2.symm with w | w
      · exact fd_Dtop x0 hx w
      · exact fd_Dtop y0 hy w
    · exact z
  exact ⟨p0, (fd_degm hq hx hy h9 p0 e).2.2.1⟩
noncomputable def fd_rd (q : Nat) : Nat → Nat → Nat → Nat
  | 0, a, _ => a
  | n + 1, a, x => if 1 ≤ fd_dg q x then fd_rd q n (fd_pr q a (fd_lf q x) 9) (fd_nx q x) else a
theorem fd_rdS (hq : q = 1 ∨ q = 2 ∨ q = 4) : ∀ n a x, 0 < a → a < (q + 1) ^ 9 → 0 < x → x < (q + 1) ^ 9 → fd_dg q a + fd_dg q x ≤ 8 → fd_dg q x ≤ n → 0 < fd_rd q n a x ∧ fd_rd q n a x < (q + 1) ^ 9 ∧ fd_dg q (fd_rd q n a x) ≤ fd_dg q a + fd_dg q x ∧ (fd_dg q (fd_rd q n a x) = fd_dg q a + fd_dg q x ↔ ∀ i, i < fd_ct q n x → fd_mu q (fd_lf q (fd_it q i x)) 8 (fd_it q i x) = 1) := by
  intro n
  induction n with
  | zero =>
    intro a x a0 ha x0 hx h8 hn
    refine ⟨a0, ha, by show fd_dg q a ≤ _; omega, ?_⟩
    show fd_dg q a = _ ↔ ∀ i, i < 0 → _
    refine ⟨fun _ i hi => absurd hi (by omega), fun _ => by omega⟩
  | succ n ih =>
    intro a x a0 ha x0 hx h8 hn
    rcases Nat.eq_zero_or_pos (fd_dg q x) with z | z
    · have e : fd_rd q (n + 1) a x = a := by simp only [fd_rd]; rw [if_neg (by omega)]
      have e2 : fd_ct q (n + 1) x = 0 := by simp only [fd_ct]; rw [if_neg (by omega)]
      rw [e, e2]
      exact ⟨a0, ha, by omega, fun _ i hi => absurd hi (by omega), fun _ => by omega⟩
    · have e : fd_rd q (n + 1) a x = fd_rd q n (fd_pr q a (fd_lf q x) 9) (fd_nx q x) := by simp only [fd_rd]; rw [if_pos (show 1 ≤ fd_dg q x from z)]
      have e2 : fd_ct q (n + 1) x = fd_ct q n (fd_nx q x) + 1 := by simp only [fd_ct]; rw [if_pos (show 1 ≤ fd_dg q x from z)]
      obtain ⟨s1, s2, s3, s4, s5, s6, s7⟩ := fd_nxS hq x0 hx z
      obtain ⟨m0, m9, m1, _⟩ := fd_M0 hq (fd_lfF hq hx z).1
      have w : fd_dg q (fd_lf q x) ≤ fd_mu q (fd_lf q x) 8 x * fd_dg q (fd_lf q x) := Nat.le_mul_of_pos_left _ s5
      obtain ⟨p0, pd⟩ := fd_prd hq ha a0 m0 m9 (by omega)
      obtain ⟨c1, c2, c3, c4⟩ := ih (fd_pr q a (fd_lf q x) 9) (fd_nx q x) p0 (fd_pr9 _ _ 9) s1 s2 (by omega) (by omega)
      rw [e, e2]
      refine ⟨c1, c2, by omega, ?_⟩
      have w2 : fd_mu q (fd_lf q x) 8 x * fd_dg q (fd_lf q x) = fd_dg q (fd_lf q x) ↔ fd_mu q (fd_lf q x) 8 x = 1 := by
        constructor
        · intro h
          have : fd_mu q (fd_lf q x) 8 x * fd_dg q (fd_lf q x) = 1 * fd_dg q (fd_lf q x) := by rw [Nat.one_mul]; exact h
          exact Nat.eq_of_mul_eq_mul_right m1 this
        · intro h
          rw [h, Nat.one_mul]
      constructor
      · intro h i hi
        cases i with
        | zero => exact w2.mp (by omega)
        | succ i => exact c4.mp (by omega) i (by omega)
      · intro h
        have h1 := w2.mpr (h 0 (by omega))
        have h2 := c4.mpr (fun i hi => h (i + 1) (by omega))
        omega
/-- irreducible: the chain has one factor, once -/
theorem fd_irr (hq : q = 1 ∨ q = 2 ∨ q = 4) {x : Nat} (x0 : 0 < x) (hx : x < (q + 1) ^ 9) (h1 : 1 ≤ fd_dg q x) : fd_dg q (fd_lf q x) = fd_dg q x ↔ fd_ct q 8 x = 1 ∧ fd_mu q (fd_lf q x) 8 x = 1 := by
  obtain ⟨s1, s2, s3, s4, s5, s6, s7⟩ := fd_nxS hq x0 hx h1
  obtain ⟨m0, m9, m1, _⟩ := fd_M0 hq (fd_lfF hq hx h1).1
  have e2 : fd_ct q 8 x = fd_ct q 7 (fd_nx q x) + 1 := by
    show (if 1 ≤ fd_dg q x then fd_ct q 7 (fd_nx q x) + 1 else 0) = _
    rw [if_pos h1]
  have h8 := fd_dg8 hx
  have c := (fd_ctS hq 7 (fd_nx q x) s1 s2 (by omega)).2 0
  have c' : 1 ≤ fd_dg q (fd_nx q x) ↔ 0 < fd_ct q 7 (fd_nx q x) := c
  constructor
  · intro h
    rw [h] at s4
    have : fd_mu q (fd_lf q x) 8 x = 1 := by
      rcases Nat.lt_or_ge 1 (fd_mu q (fd_lf q x) 8 x) with w | w
      · have := Nat.mul_le_mul_right (fd_dg q x) w
        omega
      · omega
    rw [this] at s4
    exact ⟨by omega, this⟩
  · intro ⟨h, k⟩
    rw [k] at s4
    omega
end
