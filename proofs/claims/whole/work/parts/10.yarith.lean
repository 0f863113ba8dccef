/-! Y's own methods, the arithmetic -/
section
variable {q : Nat} {en rm fo : Int32} {rg fa og : Nat → Int32}
theorem fw_pm1 (i : Nat) : nI i + (-1) + 1 = nI (i + 1) + (-1) := by
  rw [← nI_1]
  grind
theorem fw_dd (q x i : Nat) : x / (q + 1) ^ i / (q + 1) = x / (q + 1) ^ (i + 1) := by
  rw [Nat.div_div_eq_div_mul, ← fd_ps]
theorem fw_dp (hq : q = 1 ∨ q = 2 ∨ q = 4) {x i : Nat} (hx : x < 2 ^ 31) : nI (x / (q + 1) ^ i) / nI (q + 1) = nI (x / (q + 1) ^ (i + 1)) := by
  rw [pk_div (fw_dl hx) (by omega) (by omega), fw_dd]
theorem yw_d7 {x : Nat} {post : Int32 → Prop} (hq : q = 1 ∨ q = 2 ∨ q = 4) (hx : x < (q + 1) ^ 9) (h : post (nI (fd_ln q x) + (-1))) : ∀ d i n, i + d = fd_ln q x → d < n → wY_degreeOf_7 post (nI (q + 1)) en rm fo rg fa og n (nI i + (-1)) (nI (x / (q + 1) ^ i)) (nI i) := by
  have l9 := fd_l9 hx
  have xb := fw_b hq hx
  intro d
  induction d with
  | zero =>
    intro i n hi hn
    obtain ⟨n, rfl⟩ : ∃ j, n = j + 1 := ⟨n - 1, by omega⟩
    have e : i = fd_ln q x := by omega
    subst e
    refine br_f (nI_ge (b := 20) (by omega) (by omega)) (br_t ?_ h)
    rw [fd_low (fd_l1 hx) (Nat.le_refl _)]
    exact nI_le (a := 0) (b := 0) (by omega) (by omega)
  | succ d ih =>
    intro i n hi hn
    obtain ⟨n, rfl⟩ : ∃ j, n = j + 1 := ⟨n - 1, by omega⟩
    have x0 : 0 < x := by
      rcases Nat.eq_zero_or_pos x with z | z
      · subst z
        rw [fd_ln0] at hi
        omega
      · exact z
    have pos : 0 < x / (q + 1) ^ i := Nat.div_pos (Nat.le_trans (fd_pm q (show i ≤ fd_ln q x - 1 by omega)) (fd_l2 hx x0)) (fd_pp q i)
    have k := ih (i + 1) n (by omega) (by omega)
    exact br_f (nI_ge (b := 20) (by omega) (by omega)) (br_f (nI_nle pos (fw_dl xb)) ⟨fw_m hq, nm_r (fw_dp hq xb) (nm_r (fw_pm1 i) (nm_r (nI_1 i) k))⟩)
theorem yw_deg {x : Nat} {post : Int32 → Prop} (hq : q = 1 ∨ q = 2 ∨ q = 4) (hx : x < (q + 1) ^ 9) (h : post (nI (fd_ln q x) + (-1))) : wpY_degreeOf post (nI (q + 1), en, rm, fo, rg, fa, og) (nI x) := by
  have k := yw_d7 (en := en) (rm := rm) (fo := fo) (rg := rg) (fa := fa) (og := og) hq hx h (fd_ln q x) 0 (fd_ln q x + 1) (by omega) (by omega)
  have e : nI 0 + (-1) = -1 := by decide
  rw [Nat.pow_zero, Nat.div_one, e] at k
  exact ⟨_, k⟩
theorem yw_degp {x : Nat} {post : Int32 → Prop} (hq : q = 1 ∨ q = 2 ∨ q = 4) (h0 : 0 < x) (hx : x < (q + 1) ^ 9) (h : post (nI (fd_dg q x))) : wpY_degreeOf post (nI (q + 1), en, rm, fo, rg, fa, og) (nI x) :=
  yw_deg hq hx (by rw [fw_dI h0 hx]; exact h)
theorem yw_g5 {x i : Nat} {post : Int32 → Prop} (hq : q = 1 ∨ q = 2 ∨ q = 4) (hx : x < (q + 1) ^ 9) (h9 : i < 20) (h : post (nI (x / (q + 1) ^ i % (q + 1)))) : ∀ d j n, j + d = i → d < n → wY_digit_5 post (nI i) (nI (q + 1)) en rm fo rg fa og n (nI (x / (q + 1) ^ j)) (nI j) := by
  have xb := fw_b hq hx
  intro d
  induction d with
  | zero =>
    intro j n hj hn
    obtain ⟨n, rfl⟩ : ∃ j, n = j + 1 := ⟨n - 1, by omega⟩
    have e : j = i := by omega
    subst e
    refine br_t (nI_le (by omega) (by omega)) ⟨fw_m hq, ?_⟩
    rw [pk_rem (fw_dl xb) (by omega) (by omega)]
    exact h
  | succ d ih =>
    intro j n hj hn
    obtain ⟨n, rfl⟩ : ∃ j, n = j + 1 := ⟨n - 1, by omega⟩
    exact br_f (nI_ge (by omega) (by omega)) ⟨fw_m hq, nm_r (fw_dp hq xb) (nm_r (nI_1 j) (ih (j + 1) n (by omega) (by omega)))⟩
theorem yw_dig {x i : Nat} {post : Int32 → Prop} (hq : q = 1 ∨ q = 2 ∨ q = 4) (hx : x < (q + 1) ^ 9) (h9 : i < 20) (h : post (nI (x / (q + 1) ^ i % (q + 1)))) : wpY_digit post (nI (q + 1), en, rm, fo, rg, fa, og) (nI x) (nI i) := by
  have k := yw_g5 (en := en) (rm := rm) (fo := fo) (rg := rg) (fa := fa) (og := og) hq hx h9 h i 0 (i + 1) (by omega) (by omega)
  rw [Nat.pow_zero, Nat.div_one] at k
  exact ⟨_, k⟩
theorem yw_l4 {x : Nat} {post : Int32 → Prop} (hq : q = 1 ∨ q = 2 ∨ q = 4) (x0 : 0 < x) (hx : x < (q + 1) ^ 9) (h : post (nI (fd_ld q x))) : ∀ d j n, j + d = fd_dg q x → d < n → wY_lead_4 post (nI (q + 1)) en rm fo rg fa og n (nI (x / (q + 1) ^ j)) (nI j) := by
  have xb := fw_b hq hx
  have x8 := fd_dg8 hx
  have q5 := fd_bq hq
  intro d
  induction d with
  | zero =>
    intro j n hj hn
    obtain ⟨n, rfl⟩ : ∃ j, n = j + 1 := ⟨n - 1, by omega⟩
    have e : j = fd_dg q x := by omega
    subst e
    exact br_f (nI_ge (b := 20) (by omega) (by omega)) (br_t (nI_lt (fd_ldb x0 hx).2 (by omega)) h)
  | succ d ih =>
    intro j n hj hn
    obtain ⟨n, rfl⟩ : ∃ j, n = j + 1 := ⟨n - 1, by omega⟩
    have ge : q + 1 ≤ x / (q + 1) ^ j := by
      rw [Nat.le_div_iff_mul_le (fd_pp q j), Nat.mul_comm, ← fd_ps]
      exact Nat.le_trans (fd_pm q (by omega)) (fd_dgl x0 hx)
    exact br_f (nI_ge (b := 20) (by omega) (by omega)) (br_f (nI_nlt ge (fw_dl xb)) ⟨fw_m hq, nm_r (fw_dp hq xb) (nm_r (nI_1 j) (ih (j + 1) n (by omega) (by omega)))⟩)
theorem yw_lead {x : Nat} {post : Int32 → Prop} (hq : q = 1 ∨ q = 2 ∨ q = 4) (x0 : 0 < x) (hx : x < (q + 1) ^ 9) (h : post (nI (fd_ld q x))) : wpY_lead post (nI (q + 1), en, rm, fo, rg, fa, og) (nI x) := by
  have k := yw_l4 (en := en) (rm := rm) (fo := fo) (rg := rg) (fa := fa) (og := og) hq x0 hx h (fd_dg q x) 0 (fd_dg q x + 1) (by omega) (by omega)
  rw [Nat.pow_zero, Nat.div_one] at k
  exact ⟨_, k⟩
theorem yw_i2 {k : Nat} {post : Int32 → Prop} (hq : q = 1 ∨ q = 2 ∨ q = 4) (hk : k < q + 1) (h1 : 1 ≤ k) (h : post (nI (fd_iv q k))) : ∀ d c n, 1 ≤ c → c + d = fd_iv q k → d < n → wY_inverse_2 post (nI k) (nI (q + 1)) en rm fo rg fa og n (nI c) := by
  obtain ⟨i1, i2, i3, i4⟩ := fd_ivd q hq k hk h1
  have q5 := fd_bq hq
  intro d
  induction d with
  | zero =>
    intro c n hc hd hn
    obtain ⟨n, rfl⟩ : ∃ j, n = j + 1 := ⟨n - 1, by omega⟩
    have e : c = fd_iv q k := by omega
    have b : k * c ≤ 5 * 5 := Nat.mul_le_mul (by omega) (by omega)
    refine br_f (nI_ge (by omega) (by omega)) ⟨fw_m hq, pk_eq (k * c % (q + 1)) 1 (fun _ => by rw [e]; exact h) (fun z => ?_) (by rw [pk_mul, pk_rem (by omega) (by omega) (by omega)]) rfl (by have := Nat.mod_lt (k * c) (show 0 < q + 1 by omega); omega) (by omega)⟩
    exfalso
    apply z
    rw [e]
    exact i3
  | succ d ih =>
    intro c n hc hd hn
    obtain ⟨n, rfl⟩ : ∃ j, n = j + 1 := ⟨n - 1, by omega⟩
    have b : k * c ≤ 5 * 5 := Nat.mul_le_mul (by omega) (by omega)
    refine br_f (nI_ge (by omega) (by omega)) ⟨fw_m hq, pk_eq (k * c % (q + 1)) 1 (fun z => ?_) (fun z => nm_r (nI_1 c) (ih (c + 1) n (by omega) (by omega) (by omega))) (by rw [pk_mul, pk_rem (by omega) (by omega) (by omega)]) rfl (by have := Nat.mod_lt (k * c) (show 0 < q + 1 by omega); omega) (by omega)⟩
    exfalso
    rw [Nat.mul_comm] at z
    have := i4 c (by omega) z
    omega
theorem yw_i {k : Nat} {post : Int32 → Prop} (hq : q = 1 ∨ q = 2 ∨ q = 4) (hk : k < q + 1) (h1 : 1 ≤ k) (h : post (nI (fd_iv q k))) : wpY_inverse post (nI (q + 1), en, rm, fo, rg, fa, og) (nI k) := by
  obtain ⟨i1, i2, i3, i4⟩ := fd_ivd q hq k hk h1
  exact ⟨6, yw_i2 hq hk h1 h (fd_iv q k - 1) 1 6 (by omega) (by omega) (by have := fd_bq hq; omega)⟩
theorem fw_mm (a b k p : Nat) : (a % p + k * (b % p)) % p = (a + k * b) % p := by
  rw [Nat.add_mod, Nat.mod_mod, Nat.mul_mod, Nat.mod_mod, ← Nat.mul_mod, ← Nat.add_mod]
theorem yw_c15 {x k y : Nat} {post : Int32 → Prop} (hq : q = 1 ∨ q = 2 ∨ q = 4) (hx : x < (q + 1) ^ 9) (hy : y < (q + 1) ^ 9) (hk : k ≤ 5) (h : post (nI (fd_c q x k y 9))) : ∀ d i n, i + d = 9 → d < n → wY_plus_15 post (nI k) (nI (q + 1)) en rm fo rg fa og n (nI (fd_c q x k y i)) (nI ((q + 1) ^ i)) (nI (x / (q + 1) ^ i)) (nI (y / (q + 1) ^ i)) (nI i) := by
  have xb := fw_b hq hx
  have yb := fw_b hq hy
  have q5 := fd_bq hq
  intro d
  induction d with
  | zero =>
    intro i n hi hn
    obtain ⟨n, rfl⟩ : ∃ j, n = j + 1 := ⟨n - 1, by omega⟩
    have e : i = 9 := by omega
    subst e
    exact br_t (nI_le (a := 9) (b := 9) (by omega) (by omega)) h
  | succ d ih =>
    intro i n hi hn
    obtain ⟨n, rfl⟩ : ∃ j, n = j + 1 := ⟨n - 1, by omega⟩
    have m1 := Nat.mod_lt (x / (q + 1) ^ i) (show 0 < q + 1 by omega)
    have m2 := Nat.mod_lt (y / (q + 1) ^ i) (show 0 < q + 1 by omega)
    have b : k * (y / (q + 1) ^ i % (q + 1)) ≤ 5 * 5 := Nat.mul_le_mul hk (by omega)
    refine br_f (nI_ge (b := 9) (by omega) (by omega)) ⟨fw_m hq, fw_m hq, fw_m hq, nm_r (e' := nI (fd_c q x k y (i + 1))) ?_ (nm_r (e' := nI ((q + 1) ^ (i + 1))) ?_ ⟨fw_m hq, nm_r (fw_dp hq xb) ⟨fw_m hq, nm_r (fw_dp hq yb) (nm_r (nI_1 i) (ih (i + 1) n (by omega) (by omega)))⟩⟩)⟩
    · rw [pk_rem (fw_dl xb) (by omega) (by omega), pk_rem (fw_dl yb) (by omega) (by omega), pk_mul, nI_add, pk_rem (by omega) (by omega) (by omega), pk_mul, nI_add, fw_mm]
      rfl
    · rw [pk_mul, ← fd_ps]
theorem yw_c {x k y : Nat} {post : Int32 → Prop} (hq : q = 1 ∨ q = 2 ∨ q = 4) (hx : x < (q + 1) ^ 9) (hy : y < (q + 1) ^ 9) (hk : k ≤ 5) (h : post (nI (fd_c q x k y 9))) : wpY_plus post (nI (q + 1), en, rm, fo, rg, fa, og) (nI x) (nI y) (nI k) := by
  have z := yw_c15 (en := en) (rm := rm) (fo := fo) (rg := rg) (fa := fa) (og := og) hq hx hy hk h 9 0 10 (by omega) (by omega)
  rw [Nat.pow_zero, Nat.div_one, Nat.div_one] at z
  exact ⟨10, z⟩
theorem yw_p11 {x y : Nat} {post : Int32 → Prop} (hq : q = 1 ∨ q = 2 ∨ q = 4) (hx : x < (q + 1) ^ 9) (x0 : 0 < x) (y0 : 0 < y) (hy : y < (q + 1) ^ 9) (hd : fd_dg q x + fd_dg q y ≤ 8) (h : post (nI (fd_pr q x y 9))) : ∀ d i n U, i + d = 9 → d < n → U < (q + 1) ^ 9 → (0 < y / (q + 1) ^ i → U = x * (q + 1) ^ i) → wY_product_11 post (nI (q + 1)) en rm fo rg fa og n (nI (fd_pr q x y i)) (nI U) (nI (y / (q + 1) ^ i)) (nI i) := by
  have yb := fw_b hq hy
  have q5 := fd_bq hq
  intro d
  induction d with
  | zero =>
    intro i n U hi hn _ _
    obtain ⟨n, rfl⟩ : ∃ j, n = j + 1 := ⟨n - 1, by omega⟩
    have e : i = 9 := by omega
    subst e
    exact br_t (nI_le (a := 9) (b := 9) (by omega) (by omega)) h
  | succ d ih =>
    intro i n U hi hn hU hUe
    obtain ⟨n, rfl⟩ : ∃ j, n = j + 1 := ⟨n - 1, by omega⟩
    have m2 := Nat.mod_lt (y / (q + 1) ^ i) (show 0 < q + 1 by omega)
    have e : fd_c q (fd_pr q x y i) (y / (q + 1) ^ i % (q + 1)) U 9 = fd_pr q x y (i + 1) := by
      show _ = fd_c q (fd_pr q x y i) (y / (q + 1) ^ i % (q + 1)) (x * (q + 1) ^ i) 9
      rcases Nat.eq_zero_or_pos (y / (q + 1) ^ i) with z | z
      · rw [z, Nat.zero_mod, fd_cp (Nat.zero_mod _) (fd_pr9 x y i), fd_cp (Nat.zero_mod _) (fd_pr9 x y i)]
      · rw [hUe z]
    refine br_f (nI_ge (b := 9) (by omega) (by omega)) ⟨fw_m hq, ?_⟩
    rw [pk_rem (fw_dl yb) (by omega) (by omega)]
    refine yw_c hq (fd_pr9 x y i) hU (by omega) ?_
    rw [e]
    refine ⟨fw_m hq, nm_r (fw_dp hq yb) (pk_le (y / (q + 1) ^ (i + 1)) 0 (fun z => nm_r (nI_1 i) (ih (i + 1) n U (by omega) (by omega) hU (fun w => by omega))) (fun z => ?_) rfl rfl (fw_dl yb) (by omega))⟩
    have li : i + 1 ≤ fd_dg q y := by
      rcases Nat.lt_or_ge (fd_dg q y) (i + 1) with w | w
      · rw [fd_low (fd_dgu y0 hy) w] at z
        omega
      · exact w
    have pz : 0 < y / (q + 1) ^ i := by
      refine Nat.div_pos (Nat.le_trans (fd_pm q (show i ≤ fd_dg q y by omega)) (fd_dgl y0 hy)) (fd_pp q i)
    have eU : U * (q + 1) = x * (q + 1) ^ (i + 1) := by
      rw [hUe pz, fd_ps, Nat.mul_assoc]
    have l9 : x * (q + 1) ^ (i + 1) < (q + 1) ^ 9 := Nat.lt_of_lt_of_le (fd_Ylt (fd_dgu x0 hx)) (fd_pm q (by omega))
    exact nm_r (e' := nI (x * (q + 1) ^ (i + 1))) (by rw [pk_mul, eU]) (nm_r (nI_1 i) (ih (i + 1) n _ (by omega) (by omega) l9 (fun _ => rfl)))
theorem yw_p {x y : Nat} {post : Int32 → Prop} (hq : q = 1 ∨ q = 2 ∨ q = 4) (hx : x < (q + 1) ^ 9) (x0 : 0 < x) (y0 : 0 < y) (hy : y < (q + 1) ^ 9) (hd : fd_dg q x + fd_dg q y ≤ 8) (h : post (nI (fd_pr q x y 9))) : wpY_product post (nI (q + 1), en, rm, fo, rg, fa, og) (nI x) (nI y) := by
  have z := yw_p11 (en := en) (rm := rm) (fo := fo) (rg := rg) (fa := fa) (og := og) hq hx x0 y0 hy hd h 9 0 10 x (by omega) (by omega) hx (fun _ => by rw [Nat.pow_zero, Nat.mul_one])
  rw [Nat.pow_zero, Nat.div_one] at z
  exact ⟨10, z⟩
theorem yw_q90 {d v y i c Q R : Nat} {post : Int32 → SY → Prop} {J : Int32 → Int32 → Int32 → Prop} (hq : q = 1 ∨ q = 2 ∨ q = 4) (hR : R < (q + 1) ^ 9) (hY : y * (q + 1) ^ i < (q + 1) ^ 9) (hc : c < q + 1) (hi : i < 10) (h : J (nI (Q + c * (q + 1) ^ i)) (nI i + (-1)) (nI (fd_c q R (q + 1 - c) (y * (q + 1) ^ i) 9))) : ∀ e j n, j + e = i → e < n → wY_quotient_90 post J (nI y) (nI Q) (nI d) (nI v) (nI i) (nI c) (nI (q + 1)) en (nI R) fo rg fa og n (nI (y * (q + 1) ^ j)) (nI (c * (q + 1) ^ j)) (nI j) := by
  have q5 := fd_bq hq
  intro e
  induction e with
  | zero =>
    intro j n hj hn
    obtain ⟨n, rfl⟩ : ∃ j, n = j + 1 := ⟨n - 1, by omega⟩
    have ej : j = i := by omega
    subst ej
    refine br_t (nI_le (by omega) (by omega)) ?_
    rw [pk_sub (by omega)]
    exact yw_c hq hR hY (by omega) (nm_r (nI_add _ _) (nm_e h))
  | succ e ih =>
    intro j n hj hn
    obtain ⟨n, rfl⟩ : ∃ j, n = j + 1 := ⟨n - 1, by omega⟩
    refine br_f (nI_ge (by omega) (by omega)) (nm_r (e' := nI (y * (q + 1) ^ (j + 1))) ?_ (nm_r (e' := nI (c * (q + 1) ^ (j + 1))) ?_ (nm_r (nI_1 j) (ih (j + 1) n (by omega) (by omega)))))
    · rw [pk_mul, fd_ps, Nat.mul_assoc]
    · rw [pk_mul, fd_ps, Nat.mul_assoc]
theorem yw_q33 {d v y : Nat} {post : Int32 → SY → Prop} (hq : q = 1 ∨ q = 2 ∨ q = 4) (hy : y < (q + 1) ^ (d + 1)) (hv : v < q + 1) : ∀ k n Q R, d + k ≤ 9 → k < n → R < (q + 1) ^ 9 → post (nI (fd_dv q d v y k (Q, R)).1) (nI (q + 1), en, nI (fd_dv q d v y k (Q, R)).2, fo, rg, fa, og) → wY_quotient_33 post (nI y) (nI d) (nI v) (nI (q + 1)) en fo rg fa og n (nI Q) (nI k + (-1)) (nI R) := by
  have b9 := fd_b9 hq
  have q5 := fd_bq hq
  intro k
  induction k with
  | zero =>
    intro n Q R _ hn _ h
    obtain ⟨n, rfl⟩ : ∃ j, n = j + 1 := ⟨n - 1, by omega⟩
    exact br_t (by decide) h
  | succ k ih =>
    intro n Q R hk hn hR h
    obtain ⟨n, rfl⟩ : ∃ j, n = j + 1 := ⟨n - 1, by omega⟩
    rw [pk_m1]
    have hc : R / (q + 1) ^ (d + k) * v % (q + 1) < q + 1 := Nat.mod_lt _ (by omega)
    have m1 := Nat.mod_lt (R / (q + 1) ^ (d + k)) (show 0 < q + 1 by omega)
    have bm : R / (q + 1) ^ (d + k) % (q + 1) * v ≤ 5 * 5 := Nat.mul_le_mul (by omega) (by omega)
    have hY9 : y * (q + 1) ^ k < (q + 1) ^ 9 := Nat.lt_of_lt_of_le (fd_Ylt hy) (fd_pm q (by omega))
    have ec : R / (q + 1) ^ (d + k) % (q + 1) * v % (q + 1) = R / (q + 1) ^ (d + k) * v % (q + 1) := by
      rw [Nat.mul_mod, Nat.mod_mod, ← Nat.mul_mod]
    refine br_f (nI_pos (by omega)) (br_f ?_ ?_)
    · rw [nI_add]
      exact nI_nlt (a := 8) (by omega) (by omega)
    rw [nI_add, Nat.add_comm k d]
    refine yw_dig hq hR (by omega) ⟨fw_m hq, ?_⟩
    rw [pk_mul, pk_rem (by omega) (by omega) (by omega), ec]
    have K := ih n (Q + R / (q + 1) ^ (d + k) * v % (q + 1) * (q + 1) ^ k) (fd_c q R (q + 1 - R / (q + 1) ^ (d + k) * v % (q + 1)) (y * (q + 1) ^ k) 9) (by omega) (by omega) (fd_clt q _ _ _ 9) h
    refine pk_le (R / (q + 1) ^ (d + k) * v % (q + 1)) 0 (fun z => nm_e ?_) (fun z => ⟨k + 1, ?_⟩) rfl rfl (by omega) (by omega)
    · have z0 : R / (q + 1) ^ (d + k) * v % (q + 1) = 0 := by omega
      rw [z0, Nat.zero_mul, Nat.add_zero, Nat.sub_zero, fd_cp (Nat.mod_self _) hR] at K
      exact K
    · have W := yw_q90 (post := post) (en := en) (fo := fo) (rg := rg) (fa := fa) (og := og) (d := d) (v := v) (Q := Q) hq hR hY9 hc (by omega) K k 0 (k + 1) (by omega) (by omega)
      rw [Nat.pow_zero, Nat.mul_one, Nat.mul_one] at W
      exact W
theorem yw_q33s {d v y : Nat} {post : Int32 → SY → Prop} (hq : q = 1 ∨ q = 2 ∨ q = 4) (hd : d ≤ 8) {Q R : Nat} {n0 : Nat} (h : ∀ n, n0 ≤ n → wY_quotient_33 post (nI y) (nI d) (nI v) (nI (q + 1)) en fo rg fa og n (nI Q) (nI (9 - d) + (-1)) (nI R)) : ∀ e n, n0 + e ≤ n → 9 - d + e ≤ 9 → wY_quotient_33 post (nI y) (nI d) (nI v) (nI (q + 1)) en fo rg fa og n (nI Q) (nI (9 - d + e) + (-1)) (nI R) := by
  intro e
  induction e with
  | zero => intro n hn _; exact h n (by omega)
  | succ e ih =>
    intro n hn h9
    obtain ⟨n, rfl⟩ : ∃ j, n = j + 1 := ⟨n - 1, by omega⟩
    have e1 : 9 - d + (e + 1) = (9 - d + e) + 1 := by omega
    rw [e1, pk_m1]
    refine br_f (nI_pos (by omega)) (br_t ?_ (br_t (by decide) (nm_e (ih n (by omega) (by omega)))))
    rw [nI_add]
    exact nI_lt (a := 8) (by omega) (by omega)
theorem yw_q {x y : Nat} {post : Int32 → SY → Prop} (hq : q = 1 ∨ q = 2 ∨ q = 4) (hx : x < (q + 1) ^ 9) (y0 : 0 < y) (hy : y < (q + 1) ^ 9) (h : post (nI (fd_qt q x y)) (nI (q + 1), en, nI (fd_rm q x y), fo, rg, fa, og)) : wpY_quotient post (nI (q + 1), en, rm, fo, rg, fa, og) (nI x) (nI y) := by
  have d8 := fd_dg8 hy
  obtain ⟨l1, l2⟩ := fd_ldb y0 hy
  have e : (8 : Int32) = nI 9 + (-1) := by decide
  unfold wpY_quotient
  refine yw_degp hq y0 hy (yw_lead hq y0 hy (yw_i hq l2 l1 ⟨20, ?_⟩))
  rw [e]
  have K := yw_q33s (post := post) (en := en) (fo := fo) (rg := rg) (fa := fa) (og := og) (d := fd_dg q y) (v := fd_iv q (fd_ld q y)) (y := y) (Q := 0) (R := x) (n0 := 10) hq d8 (fun n hn => yw_q33 hq (fd_dgu y0 hy) (fd_ivd q hq _ l2 l1).2.1 _ n 0 x (by omega) (by omega) hx h) (fd_dg q y) 20 (by omega) (by omega)
  rw [Nat.sub_add_cancel (by omega)] at K
  exact K
theorem yw_mo {x : Nat} {post : Int32 → Prop} (hq : q = 1 ∨ q = 2 ∨ q = 4) (hx : x < (q + 1) ^ 9) (h : post (nI (fd_mo q x))) : wpY_monic post (nI (q + 1), en, rm, fo, rg, fa, og) (nI x) := by
  unfold wpY_monic
  refine pk_eq x 0 (fun z => ?_) (fun z => ?_) rfl rfl (fw_b hq hx) (by omega)
  · rw [z, fd_mo0] at h
    exact h
  · have z0 : 0 < x := Nat.pos_of_ne_zero z
    obtain ⟨l1, l2⟩ := fd_ldb z0 hx
    have i2 := (fd_ivd q hq _ l2 l1).2.1
    have q5 := fd_bq hq
    exact yw_lead hq z0 hx (yw_i hq l2 l1 (yw_c (x := 0) hq (fd_pp q 9) hx (show fd_iv q (fd_ld q x) ≤ 5 by omega) h))
theorem fd_gc0 (u : Nat) : ∀ n, fd_gc q n u 0 = u := by
  intro n
  cases n with
  | zero => rfl
  | succ n => simp [fd_gc]
theorem yw_g8 {post : Int32 → SY → Prop} (hq : q = 1 ∨ q = 2 ∨ q = 4) : ∀ d i n u v rm, i + d = 12 → d < n → u < (q + 1) ^ 9 → v < (q + 1) ^ 9 → (∀ rm', post (nI (fd_mo q (fd_gc q d u v))) (nI (q + 1), en, rm', fo, rg, fa, og)) → wY_common_8 post n (nI u) (nI v) (nI i) (nI (q + 1)) en rm fo rg fa og := by
  intro d
  induction d with
  | zero =>
    intro i n u v rm hi hn hu hv h
    obtain ⟨n, rfl⟩ : ∃ j, n = j + 1 := ⟨n - 1, by omega⟩
    exact br_t (nI_le (a := 12) (by omega) (by omega)) (yw_mo hq hu (h rm))
  | succ d ih =>
    intro i n u v rm hi hn hu hv h
    obtain ⟨n, rfl⟩ : ∃ j, n = j + 1 := ⟨n - 1, by omega⟩
    refine br_f (nI_ge (b := 12) (by omega) (by omega)) (pk_eq v 0 (fun z => nm_r (nI_1 i) (ih (i + 1) n u v rm (by omega) (by omega) hu hv ?_)) (fun z => ?_) rfl rfl (fw_b hq hv) (by omega))
    · subst z
      rw [fd_gc0] at h ⊢
      exact h
    · simp only [fd_gc] at h
      rw [if_neg z] at h
      have z0 : 0 < v := Nat.pos_of_ne_zero z
      exact yw_q hq hu z0 hv (nm_r (nI_1 i) (ih (i + 1) n v _ _ (by omega) (by omega) hv (fd_rm9 hq hu z0 hv) h))
theorem yw_g {u v : Nat} {post : Int32 → SY → Prop} (hq : q = 1 ∨ q = 2 ∨ q = 4) (hu : u < (q + 1) ^ 9) (hv : v < (q + 1) ^ 9) (h : ∀ rm', post (nI (fd_mo q (fd_gc q 12 u v))) (nI (q + 1), en, rm', fo, rg, fa, og)) : wpY_common post (nI (q + 1), en, rm, fo, rg, fa, og) (nI u) (nI v) :=
  ⟨13, yw_g8 hq 12 0 13 u v rm (by omega) (by omega) hu hv h⟩
theorem yw_v6 {x t : Nat} {post : Int32 → Prop} (hq : q = 1 ∨ q = 2 ∨ q = 4) (hx : x < (q + 1) ^ 9) (ht : t < q + 1) : ∀ k n v, k ≤ 9 → k < n → v < q + 1 → post (nI (fd_va q x t k v)) → wY_value_6 post (nI x) (nI t) (nI (q + 1)) en rm fo rg fa og n (nI v) (nI k + (-1)) := by
  have b9 := fd_b9 hq
  have q5 := fd_bq hq
  intro k
  induction k with
  | zero =>
    intro n v _ hn _ h
    obtain ⟨n, rfl⟩ : ∃ j, n = j + 1 := ⟨n - 1, by omega⟩
    exact br_t (by decide) h
  | succ k ih =>
    intro n v hk hn hv h
    obtain ⟨n, rfl⟩ : ∃ j, n = j + 1 := ⟨n - 1, by omega⟩
    rw [pk_m1]
    have m1 := Nat.mod_lt (x / (q + 1) ^ k) (show 0 < q + 1 by omega)
    have bm : v * t ≤ 5 * 5 := Nat.mul_le_mul (by omega) (by omega)
    refine br_f (nI_pos (by omega)) (yw_dig hq hx (by omega) ⟨fw_m hq, nm_r (e' := nI ((v * t + x / (q + 1) ^ k) % (q + 1))) ?_ (nm_e (ih n _ (by omega) (by omega) (Nat.mod_lt _ (by omega)) h))⟩)
    rw [pk_mul, nI_add, pk_rem (by omega) (by omega) (by omega), fd_vam]
theorem yw_v {x t : Nat} {post : Int32 → Prop} (hq : q = 1 ∨ q = 2 ∨ q = 4) (hx : x < (q + 1) ^ 9) (ht : t < q + 1) (h : post (nI (fd_va q x t 9 0))) : wpY_value post (nI (q + 1), en, rm, fo, rg, fa, og) (nI x) (nI t) := by
  have e : (8 : Int32) = nI 9 + (-1) := by decide
  show ∃ n, wY_value_6 post (nI x) (nI t) (nI (q + 1)) en rm fo rg fa og n 0 8
  rw [e]
  exact ⟨10, yw_v6 hq hx ht 9 10 0 (by omega) (by omega) (by omega) h⟩
end
