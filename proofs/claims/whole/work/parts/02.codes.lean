/-! codes: a number's digits to the base q + 1 as a series over Fin (q + 1) -/
def fd_D (q x : Nat) : Nat → Fin (q + 1) := fun i => Fin.ofNat (q + 1) (x / (q + 1) ^ i)
theorem fd_Dv (q x i : Nat) : (fd_D q x i).val = x / (q + 1) ^ i % (q + 1) := rfl
theorem fd_nz {q : Nat} (hq : q = 1 ∨ q = 2 ∨ q = 4) : ∀ a b : Fin (q + 1), a * b = 0 → a = 0 ∨ b = 0 := by
  rcases hq with rfl | rfl | rfl <;> decide
theorem fd_pp (q n : Nat) : 0 < (q + 1) ^ n := Nat.pow_pos (by omega)
theorem fd_pm (q : Nat) {a b : Nat} (h : a ≤ b) : (q + 1) ^ a ≤ (q + 1) ^ b := Nat.pow_le_pow_right (by omega) h
theorem fd_ps (q n : Nat) : (q + 1) ^ (n + 1) = (q + 1) ^ n * (q + 1) := Nat.pow_succ (q + 1) n
theorem fd_dd1 (q x i : Nat) : x / (q + 1) / (q + 1) ^ i = x / (q + 1) ^ (i + 1) := by
  rw [Nat.div_div_eq_div_mul, fd_ps, Nat.mul_comm]
theorem fd_ext (q : Nat) : ∀ n x y, x < (q + 1) ^ n → y < (q + 1) ^ n → (∀ i, i < n → x / (q + 1) ^ i % (q + 1) = y / (q + 1) ^ i % (q + 1)) → x = y := by
  intro n
  induction n with
  | zero => intro x y hx hy _; rw [Nat.pow_zero] at hx hy; omega
  | succ n ih =>
    intro x y hx hy h
    have h0 := h 0 (by omega)
    rw [Nat.pow_zero, Nat.div_one, Nat.div_one] at h0
    rw [fd_ps] at hx hy
    have e : x / (q + 1) = y / (q + 1) := by
      refine ih _ _ ((Nat.div_lt_iff_lt_mul (by omega)).mpr hx) ((Nat.div_lt_iff_lt_mul (by omega)).mpr hy) (fun i hi => ?_)
      rw [fd_dd1, fd_dd1]
      exact h (i + 1) (by omega)
    rw [← Nat.div_add_mod x (q + 1), ← Nat.div_add_mod y (q + 1), e, h0]
theorem fd_low {q x n i : Nat} (h : x < (q + 1) ^ n) (hi : n ≤ i) : x / (q + 1) ^ i = 0 := Nat.div_eq_of_lt (Nat.lt_of_lt_of_le h (fd_pm q hi))
theorem fd_D0 {q x n i : Nat} (h : x < (q + 1) ^ n) (hi : n ≤ i) : fd_D q x i = 0 := by
  apply Fin.ext
  rw [fd_Dv, fd_low h hi, Nat.zero_mod]
  rfl
theorem fd_Dz (q i : Nat) : fd_D q 0 i = 0 := by
  apply Fin.ext
  rw [fd_Dv, Nat.zero_div, Nat.zero_mod]
  rfl
theorem fd_inj {q n x y : Nat} (hx : x < (q + 1) ^ n) (hy : y < (q + 1) ^ n) (h : fd_D q x = fd_D q y) : x = y := by
  refine fd_ext q n x y hx hy (fun i _ => ?_)
  rw [← fd_Dv, ← fd_Dv, h]
theorem fd_lo {q a b n i : Nat} (hi : i < n) : (a + b * (q + 1) ^ n) / (q + 1) ^ i % (q + 1) = a / (q + 1) ^ i % (q + 1) := by
  have e : (q + 1) ^ n = (q + 1) ^ (n - i - 1) * (q + 1) * (q + 1) ^ i := by
    rw [← Nat.pow_succ, ← Nat.pow_add]
    congr 1
    omega
  rw [e, ← Nat.mul_assoc, Nat.add_mul_div_right _ _ (fd_pp q i), ← Nat.mul_assoc, Nat.add_mul_mod_self_right]
theorem fd_hi {q a b n j : Nat} (ha : a < (q + 1) ^ n) : (a + b * (q + 1) ^ n) / (q + 1) ^ (n + j) = b / (q + 1) ^ j := by
  rw [Nat.pow_add, ← Nat.div_div_eq_div_mul, Nat.add_mul_div_right _ _ (fd_pp q n), Nat.div_eq_of_lt ha, Nat.zero_add]
/-- x + k * y, n digits -/
def fd_c (q x k y : Nat) : Nat → Nat
  | 0 => 0
  | i + 1 => fd_c q x k y i + (x / (q + 1) ^ i + k * (y / (q + 1) ^ i)) % (q + 1) * (q + 1) ^ i
theorem fd_clt (q x k y : Nat) : ∀ n, fd_c q x k y n < (q + 1) ^ n := by
  intro n
  induction n with
  | zero => exact Nat.one_pos
  | succ n ih =>
    have h : (x / (q + 1) ^ n + k * (y / (q + 1) ^ n)) % (q + 1) < q + 1 := Nat.mod_lt _ (by omega)
    have h2 := Nat.mul_le_mul_right ((q + 1) ^ n) (Nat.le_of_lt_succ h)
    have e : (q + 1) ^ (n + 1) = q * (q + 1) ^ n + (q + 1) ^ n := by rw [fd_ps, Nat.mul_comm, Nat.succ_mul]
    simp only [fd_c]
    omega
theorem fd_cdig (q x k y : Nat) : ∀ n i, i < n → fd_c q x k y n / (q + 1) ^ i % (q + 1) = (x / (q + 1) ^ i + k * (y / (q + 1) ^ i)) % (q + 1) := by
  intro n
  induction n with
  | zero => intro i hi; omega
  | succ n ih =>
    intro i hi
    simp only [fd_c]
    rcases Nat.lt_or_ge i n with z | z
    · rw [fd_lo z, ih i z]
    · have e : i = n := by omega
      subst e
      have := fd_hi (q := q) (b := (x / (q + 1) ^ i + k * (y / (q + 1) ^ i)) % (q + 1)) (j := 0) (fd_clt q x k y i)
      rw [Nat.add_zero i, Nat.pow_zero, Nat.div_one] at this
      rw [this, Nat.mod_mod]
theorem fd_Dc {q x k y : Nat} (hx : x < (q + 1) ^ 9) (hy : y < (q + 1) ^ 9) : fd_D q (fd_c q x k y 9) = fun i => fd_D q x i + Fin.ofNat (q + 1) k * fd_D q y i := by
  funext i
  apply Fin.ext
  have e : (fd_D q x i + Fin.ofNat (q + 1) k * fd_D q y i).val = (x / (q + 1) ^ i % (q + 1) + k % (q + 1) * (y / (q + 1) ^ i % (q + 1)) % (q + 1)) % (q + 1) := rfl
  rw [e, ← Nat.mul_mod, ← Nat.add_mod, fd_Dv]
  rcases Nat.lt_or_ge i 9 with z | z
  · exact fd_cdig q x k y 9 i z
  · rw [fd_low (fd_clt q x k y 9) z, fd_low hx z, fd_low hy z, Nat.mul_zero, Nat.add_zero]
theorem fd_c0 {q x k y : Nat} (hk : k % (q + 1) = 0) : ∀ n, fd_c q x k y n = x % (q + 1) ^ n := by
  intro n
  induction n with
  | zero => rw [Nat.pow_zero, Nat.mod_one]; rfl
  | succ n ih =>
    have e : (x / (q + 1) ^ n + k * (y / (q + 1) ^ n)) % (q + 1) = x / (q + 1) ^ n % (q + 1) := by
      rw [Nat.add_mod, Nat.mul_mod, hk, Nat.zero_mul, Nat.zero_mod, Nat.add_zero, Nat.mod_mod]
    simp only [fd_c]
    rw [e, ih, Nat.mod_pow_succ, Nat.mul_comm]
theorem fd_cp {q x k y : Nat} (hk : k % (q + 1) = 0) (hx : x < (q + 1) ^ 9) : fd_c q x k y 9 = x := by
  rw [fd_c0 hk, Nat.mod_eq_of_lt hx]
theorem fd_Dsh (q y i : Nat) : fd_D q (y * (q + 1) ^ i) = fs_sh i (fd_D q y) := by
  funext n
  apply Fin.ext
  rcases Nat.lt_or_ge n i with z | z
  · have e0 : fs_sh i (fd_D q y) n = 0 := by simp [fs_sh, z]
    have e : (q + 1) ^ i = (q + 1) ^ (i - n - 1) * (q + 1) * (q + 1) ^ n := by
      rw [← Nat.pow_succ, ← Nat.pow_add]
      congr 1
      omega
    rw [e0, fd_Dv, e, ← Nat.mul_assoc, Nat.mul_div_cancel _ (fd_pp q n), ← Nat.mul_assoc, Nat.mul_mod_left]
    rfl
  · have e0 : fs_sh i (fd_D q y) n = fd_D q y (n - i) := by simp [fs_sh, Nat.not_lt.mpr z]
    have e := fd_hi (q := q) (a := 0) (b := y) (n := i) (j := n - i) (fd_pp q i)
    rw [Nat.zero_add, Nat.add_sub_cancel' z] at e
    rw [e0, fd_Dv, fd_Dv, e]
theorem fd_Dt {q w c i : Nat} (hc : c < q + 1) : fd_D q (w * (q + 1) ^ (i + 1) + c * (q + 1) ^ i) = fun n => fd_D q (w * (q + 1) ^ (i + 1)) n + fs_t i (Fin.ofNat (q + 1) c) n := by
  have e1 : w * (q + 1) ^ (i + 1) + c * (q + 1) ^ i = (w * (q + 1) + c) * (q + 1) ^ i := by
    rw [fd_ps, Nat.add_mul, Nat.mul_comm ((q + 1) ^ i) (q + 1), Nat.mul_assoc]
  have e2 : w * (q + 1) ^ (i + 1) = (w * (q + 1)) * (q + 1) ^ i := by
    rw [fd_ps, Nat.mul_comm ((q + 1) ^ i) (q + 1), Nat.mul_assoc]
  rw [e1, e2, fd_Dsh, fd_Dsh]
  funext n
  rcases Nat.lt_trichotomy n i with z | z | z
  · have z2 : n ≠ i := by omega
    simp [fs_sh, fs_t, z, z2]
  · subst z
    have h1 : fd_D q (w * (q + 1) + c) 0 = Fin.ofNat (q + 1) c := by
      apply Fin.ext
      rw [fd_Dv, Nat.pow_zero, Nat.div_one, Nat.add_comm, Nat.add_mul_mod_self_right]
      rfl
    have h2 : fd_D q (w * (q + 1)) 0 = 0 := by
      apply Fin.ext
      rw [fd_Dv, Nat.pow_zero, Nat.div_one, Nat.mul_mod_left]
      rfl
    simp [fs_sh, fs_t, h1, h2]
  · have h1 : fd_D q (w * (q + 1) + c) (n - i) = fd_D q (w * (q + 1)) (n - i) := by
      have e : n - i = (n - i - 1) + 1 := by omega
      apply Fin.ext
      rw [fd_Dv, fd_Dv, e, ← fd_dd1, ← fd_dd1, Nat.add_comm, Nat.add_mul_div_right _ _ (by omega), Nat.div_eq_of_lt hc, Nat.zero_add, Nat.mul_div_cancel _ (by omega)]
    have z1 : ¬ n < i := by omega
    have z2 : n ≠ i := by omega
    simp [fs_sh, fs_t, h1, z1, z2]
theorem fd_om (q a b : Nat) : Fin.ofNat (q + 1) (a * b) = Fin.ofNat (q + 1) a * Fin.ofNat (q + 1) b := by
  apply Fin.ext
  show a * b % (q + 1) = a % (q + 1) * (b % (q + 1)) % (q + 1)
  rw [← Nat.mul_mod]
theorem fd_oa (q a b : Nat) : Fin.ofNat (q + 1) (a + b) = Fin.ofNat (q + 1) a + Fin.ofNat (q + 1) b := by
  apply Fin.ext
  show (a + b) % (q + 1) = (a % (q + 1) + b % (q + 1)) % (q + 1)
  rw [← Nat.add_mod]
theorem fd_or (q a : Nat) : Fin.ofNat (q + 1) (a % (q + 1)) = Fin.ofNat (q + 1) a := by
  apply Fin.ext
  show a % (q + 1) % (q + 1) = a % (q + 1)
  rw [Nat.mod_mod]
theorem fd_op (q : Nat) : Fin.ofNat (q + 1) (q + 1) = 0 := by
  apply Fin.ext
  show (q + 1) % (q + 1) = 0
  rw [Nat.mod_self]
/-- the number of digits, at most n -/
def fd_L (q x : Nat) : Nat → Nat
  | 0 => 0
  | n + 1 => if (q + 1) ^ n ≤ x then n + 1 else fd_L q x n
theorem fd_Ls (q x : Nat) : ∀ n, x < (q + 1) ^ n → x < (q + 1) ^ fd_L q x n ∧ fd_L q x n ≤ n ∧ (fd_L q x n ≠ 0 → (q + 1) ^ (fd_L q x n - 1) ≤ x) := by
  intro n
  induction n with
  | zero => intro h; exact ⟨h, Nat.le_refl _, fun h => absurd rfl h⟩
  | succ n ih =>
    intro h
    simp only [fd_L]
    rcases Nat.lt_or_ge x ((q + 1) ^ n) with z | z
    · rw [if_neg (Nat.not_le.mpr z)]
      obtain ⟨a, b, c⟩ := ih z
      exact ⟨a, by omega, c⟩
    · rw [if_pos z]
      exact ⟨h, Nat.le_refl _, fun _ => z⟩
def fd_ln (q x : Nat) : Nat := fd_L q x 9
theorem fd_l1 {q x : Nat} (h : x < (q + 1) ^ 9) : x < (q + 1) ^ fd_ln q x := (fd_Ls q x 9 h).1
theorem fd_l9 {q x : Nat} (h : x < (q + 1) ^ 9) : fd_ln q x ≤ 9 := (fd_Ls q x 9 h).2.1
theorem fd_lp {q x : Nat} (h : x < (q + 1) ^ 9) (h0 : 0 < x) : 0 < fd_ln q x := by
  rcases Nat.eq_zero_or_pos (fd_ln q x) with z | z
  · have := fd_l1 h
    rw [z, Nat.pow_zero] at this
    omega
  · exact z
theorem fd_l2 {q x : Nat} (h : x < (q + 1) ^ 9) (h0 : 0 < x) : (q + 1) ^ (fd_ln q x - 1) ≤ x := by
  have h1 := fd_lp h h0
  exact (fd_Ls q x 9 h).2.2 (by unfold fd_ln at h1; omega)
theorem fd_leq {q x d : Nat} (hd : d ≤ 8) (h1 : (q + 1) ^ d ≤ x) (h2 : x < (q + 1) ^ (d + 1)) : fd_ln q x = d + 1 := by
  have h9 : x < (q + 1) ^ 9 := Nat.lt_of_lt_of_le h2 (fd_pm q (by omega))
  have h0 : 0 < x := Nat.lt_of_lt_of_le (fd_pp q d) h1
  have a := fd_l1 h9
  have b := fd_l2 h9 h0
  have c := fd_lp h9 h0
  rcases Nat.lt_or_ge d (fd_ln q x) with z | z
  · rcases Nat.lt_or_ge (d + 1) (fd_ln q x) with y | y
    · have := fd_pm q (show d + 1 ≤ fd_ln q x - 1 by omega)
      omega
    · omega
  · have := fd_pm q z
    omega
theorem fd_ll {q x n : Nat} (hx : x < (q + 1) ^ 9) (h : x < (q + 1) ^ n) : fd_ln q x ≤ n := by
  rcases Nat.eq_zero_or_pos x with z | z
  · have : fd_ln q x = 0 := by
      subst z
      have h1 : ∀ n, fd_L q 0 n = 0 := by
        intro n
        induction n with
        | zero => rfl
        | succ n ih =>
          simp only [fd_L]
          rw [if_neg (Nat.not_le.mpr (fd_pp q n)), ih]
      exact h1 9
    omega
  · have b := fd_l2 hx z
    rcases Nat.lt_or_ge n (fd_ln q x) with y | y
    · have := fd_pm q (show n ≤ fd_ln q x - 1 by omega)
      omega
    · exact y
theorem fd_top {q x d : Nat} (h1 : (q + 1) ^ d ≤ x) (h2 : x < (q + 1) ^ (d + 1)) : fd_D q x d ≠ 0 := by
  intro h
  have e : (fd_D q x d).val = 0 := by rw [h]; rfl
  rw [fd_Dv, Nat.mod_eq_of_lt] at e
  · have := Nat.div_pos h1 (fd_pp q d)
    omega
  · rw [Nat.div_lt_iff_lt_mul (fd_pp q d), Nat.mul_comm, ← fd_ps]
    exact h2
theorem fd_sm {q x n : Nat} (hx : x < (q + 1) ^ 9) (h : ∀ j, n ≤ j → fd_D q x j = 0) : x < (q + 1) ^ n := by
  rcases Nat.lt_or_ge x ((q + 1) ^ n) with z | z
  · exact z
  · exfalso
    have h0 : 0 < x := Nat.lt_of_lt_of_le (fd_pp q n) z
    have a := fd_l1 hx
    have b := fd_l2 hx h0
    have c := fd_lp hx h0
    refine fd_top b (by rw [Nat.sub_add_cancel c]; exact a) (h _ ?_)
    rcases Nat.lt_or_ge (fd_ln q x) (n + 1) with y | y
    · have := fd_pm q (show fd_ln q x ≤ n by omega)
      omega
    · omega
theorem fd_P {q x : Nat} (hx : x < (q + 1) ^ 9) : fs_P (fd_D q x) := ⟨9, fun _ hi => fd_D0 hx hi⟩
