/-! X's own methods, the arithmetic, against the pure functions -/
def fw_P (q : Nat) (pw : Nat → Int32) : Prop := ∀ i, i < 10 → pw i = nI ((q + 1) ^ i)
section
variable {q : Nat} {pw rg : Nat → Int32}
theorem fw_b (hq : q = 1 ∨ q = 2 ∨ q = 4) {x : Nat} (hx : x < (q + 1) ^ 9) : x < 2 ^ 31 := by
  have := fd_b9 hq
  omega
theorem fw_pl (hq : q = 1 ∨ q = 2 ∨ q = 4) {i : Nat} (hi : i < 10) : (q + 1) ^ i < 2 ^ 31 := by
  have := fd_b9 hq
  have := fd_pm q (show i ≤ 9 by omega)
  omega
theorem fw_at (h : fw_P q pw) {i : Nat} (hi : i < 10) : pw (nI i).toNatClampNeg = nI ((q + 1) ^ i) := by
  rw [nI_clamp (by omega)]
  exact h i hi
theorem fw_nz (hq : q = 1 ∨ q = 2 ∨ q = 4) (h : fw_P q pw) {i : Nat} (hi : i < 10) : ¬ pw (nI i).toNatClampNeg = 0 := by
  rw [fw_at h hi]
  exact nI_ne0 (fd_pp q i) (fw_pl hq hi)
theorem fw_m (hq : q = 1 ∨ q = 2 ∨ q = 4) : ¬ nI (q + 1) = 0 := nI_ne0 (by omega) (by omega)
theorem fw_dl {x d : Nat} (hx : x < 2 ^ 31) : x / d < 2 ^ 31 := Nat.lt_of_le_of_lt (Nat.div_le_self x d) hx
theorem xw_deg3 {x : Nat} {post : Int32 → Prop} {m : Int32} (hq : q = 1 ∨ q = 2 ∨ q = 4) (hp : fw_P q pw) (hx : x < 2 ^ 31) : ∀ k n, k ≤ 9 → k < n → post (nI (fd_L q x k) + (-1)) → wX_degreeOf_3 post (nI x) m pw rg n (nI k + (-1)) := by
  intro k
  induction k with
  | zero =>
    intro n _ hn h
    obtain ⟨n, rfl⟩ : ∃ j, n = j + 1 := ⟨n - 1, by omega⟩
    exact br_t (by decide) h
  | succ k ih =>
    intro n hk hn h
    obtain ⟨n, rfl⟩ : ∃ j, n = j + 1 := ⟨n - 1, by omega⟩
    simp only [fd_L] at h
    rw [pk_m1]
    refine br_f (nI_pos (by omega)) ⟨vp_in_nI (by omega) (by omega), ?_⟩
    refine pk_le ((q + 1) ^ k) x (fun z => ?_) (fun z => nm_e (ih n (by omega) (by omega) ?_)) (fw_at hp (by omega)) rfl (fw_pl hq (by omega)) hx
    · rw [if_pos z, pk_m1] at h
      exact h
    · rw [if_neg (by omega)] at h
      exact h
theorem xw_deg {x : Nat} {post : Int32 → Prop} (hq : q = 1 ∨ q = 2 ∨ q = 4) (hp : fw_P q pw) (hx : x < (q + 1) ^ 9) (h : post (nI (fd_ln q x) + (-1))) : wpX_degreeOf post (nI (q + 1), pw, rg) (nI x) := by
  have e : (8 : Int32) = nI 9 + (-1) := by decide
  show ∃ n, wX_degreeOf_3 post (nI x) (nI (q + 1)) pw rg n 8
  rw [e]
  exact ⟨10, xw_deg3 hq hp (fw_b hq hx) 9 10 (by omega) (by omega) h⟩
theorem fd_ln0 (q : Nat) : fd_ln q 0 = 0 := by
  have := fd_ll (q := q) (x := 0) (n := 0) (fd_pp q 9) (fd_pp q 0)
  omega
theorem fw_dI {x : Nat} (h0 : 0 < x) (hx : x < (q + 1) ^ 9) : nI (fd_ln q x) + (-1) = nI (fd_dg q x) := by
  rw [← fd_dg1 h0 hx, pk_m1]
theorem fw_d0 : nI (fd_ln q 0) + (-1) = -1 := by
  rw [fd_ln0]
  decide
theorem xw_degp {x : Nat} {post : Int32 → Prop} (hq : q = 1 ∨ q = 2 ∨ q = 4) (hp : fw_P q pw) (h0 : 0 < x) (hx : x < (q + 1) ^ 9) (h : post (nI (fd_dg q x))) : wpX_degreeOf post (nI (q + 1), pw, rg) (nI x) :=
  xw_deg hq hp hx (by rw [fw_dI h0 hx]; exact h)
theorem xw_deg0 {post : Int32 → Prop} (hq : q = 1 ∨ q = 2 ∨ q = 4) (hp : fw_P q pw) (h : post (-1)) : wpX_degreeOf post (nI (q + 1), pw, rg) (nI 0) :=
  xw_deg hq hp (fd_pp q 9) (by rw [fw_d0]; exact h)
theorem xw_c6 {x k y : Nat} {post : Int32 → Prop} (hq : q = 1 ∨ q = 2 ∨ q = 4) (hp : fw_P q pw) (hx : x < (q + 1) ^ 9) (hy : y < (q + 1) ^ 9) (hk : k ≤ 5) (h : post (nI (fd_c q x k y 9))) : ∀ d i n, i + d = 9 → d < n → wX_combine_6 post (nI x) (nI k) (nI y) (nI (q + 1)) pw rg n (nI (fd_c q x k y i)) (nI i) := by
  have b9 := fd_b9 hq
  intro d
  induction d with
  | zero =>
    intro i n hi hn
    obtain ⟨n, rfl⟩ : ∃ j, n = j + 1 := ⟨n - 1, by omega⟩
    have e : i = 9 := by omega
    subst e
    exact br_t (nI_le (a := 9) (b := 9) (by omega) (by omega)) h
  | succ d ih =>
    intro i n hi hn
    obtain ⟨n, rfl⟩ : ∃ j, n = j + 1 := ⟨n - 1, by omega⟩
    have hin : vp_in (nI i) 10 := vp_in_nI (by omega) (by omega)
    have hz := fw_nz hq hp (show i < 10 by omega)
    have e := fw_at hp (show i < 10 by omega)
    have bx : x / (q + 1) ^ i ≤ x := Nat.div_le_self _ _
    have byy : y / (q + 1) ^ i ≤ y := Nat.div_le_self _ _
    have bk : k * (y / (q + 1) ^ i) ≤ 5 * y := Nat.mul_le_mul hk byy
    refine br_f (nI_ge (b := 9) (by omega) (by omega)) ⟨hin, hz, hin, hz, fw_m hq, nm_r (e' := nI ((x / (q + 1) ^ i + k * (y / (q + 1) ^ i)) % (q + 1))) ?_ ⟨hin, nm_r (e' := nI (fd_c q x k y (i + 1))) ?_ (nm_r (nI_1 i) (ih (i + 1) n (by omega) (by omega)))⟩⟩
    · rw [e, pk_div (by omega) (fd_pp q i) (fw_pl hq (by omega)), pk_div (by omega) (fd_pp q i) (fw_pl hq (by omega)), pk_mul, nI_add, pk_rem (by omega) (by omega) (by omega)]
    · rw [e, pk_mul, nI_add]
      rfl
theorem xw_c {x k y : Nat} {post : Int32 → Prop} (hq : q = 1 ∨ q = 2 ∨ q = 4) (hp : fw_P q pw) (hx : x < (q + 1) ^ 9) (hy : y < (q + 1) ^ 9) (hk : k ≤ 5) (h : post (nI (fd_c q x k y 9))) : wpX_combine post (nI (q + 1), pw, rg) (nI x) (nI k) (nI y) :=
  ⟨10, xw_c6 hq hp hx hy hk h 9 0 10 (by omega) (by omega)⟩
theorem xw_p5 {x y : Nat} {post : Int32 → Prop} (hq : q = 1 ∨ q = 2 ∨ q = 4) (hp : fw_P q pw) (hx : x < (q + 1) ^ 9) (hy : y < (q + 1) ^ 9) (hd : ∀ i, i < 9 → y / (q + 1) ^ i % (q + 1) ≠ 0 → x * (q + 1) ^ i < (q + 1) ^ 9) (h : post (nI (fd_pr q x y 9))) : ∀ d i n, i + d = 9 → d < n → wX_productOf_5 post (nI x) (nI y) (nI (q + 1)) pw rg n (nI (fd_pr q x y i)) (nI i) := by
  have b9 := fd_b9 hq
  have q5 := fd_bq hq
  intro d
  induction d with
  | zero =>
    intro i n hi hn
    obtain ⟨n, rfl⟩ : ∃ j, n = j + 1 := ⟨n - 1, by omega⟩
    have e : i = 9 := by omega
    subst e
    exact br_t (nI_le (a := 9) (b := 9) (by omega) (by omega)) h
  | succ d ih =>
    intro i n hi hn
    obtain ⟨n, rfl⟩ : ∃ j, n = j + 1 := ⟨n - 1, by omega⟩
    have hin : vp_in (nI i) 10 := vp_in_nI (by omega) (by omega)
    have hz := fw_nz hq hp (show i < 10 by omega)
    have e := fw_at hp (show i < 10 by omega)
    have byy : y / (q + 1) ^ i ≤ y := Nat.div_le_self _ _
    have hm : y / (q + 1) ^ i % (q + 1) < q + 1 := Nat.mod_lt _ (by omega)
    refine br_f (nI_ge (b := 9) (by omega) (by omega)) ⟨hin, hz, fw_m hq, nm_r (e' := nI (y / (q + 1) ^ i % (q + 1))) ?_ ?_⟩
    · rw [e, pk_div (by omega) (fd_pp q i) (fw_pl hq (by omega)), pk_rem (by omega) (by omega) (by omega)]
    · refine pk_eq (y / (q + 1) ^ i % (q + 1)) 0 (fun z => nm_r (nI_1 i) ?_) (fun z => ⟨hin, ?_⟩) rfl rfl (by omega) (by omega)
      · have e2 : fd_pr q x y (i + 1) = fd_pr q x y i := by
          show fd_c q (fd_pr q x y i) (y / (q + 1) ^ i % (q + 1)) (x * (q + 1) ^ i) 9 = _
          rw [fd_cp (by rw [z, Nat.zero_mod]) (fd_pr9 x y i)]
        have k := ih (i + 1) n (by omega) (by omega)
        rw [e2] at k
        exact k
      · rw [e, pk_mul]
        exact xw_c hq hp (fd_pr9 x y i) (hd i (by omega) z) (by omega) (nm_r (nI_1 i) (ih (i + 1) n (by omega) (by omega)))
theorem xw_p {x y : Nat} {post : Int32 → Prop} (hq : q = 1 ∨ q = 2 ∨ q = 4) (hp : fw_P q pw) (hx : x < (q + 1) ^ 9) (hy : y < (q + 1) ^ 9) (hd : ∀ i, i < 9 → y / (q + 1) ^ i % (q + 1) ≠ 0 → x * (q + 1) ^ i < (q + 1) ^ 9) (h : post (nI (fd_pr q x y 9))) : wpX_productOf post (nI (q + 1), pw, rg) (nI x) (nI y) :=
  ⟨10, xw_p5 hq hp hx hy hd h 9 0 10 (by omega) (by omega)⟩
theorem fw_pd {x y : Nat} (h0 : 0 < x) (hx : x < (q + 1) ^ 9) (y0 : 0 < y) (hy : y < (q + 1) ^ 9) (hd : fd_dg q x + fd_dg q y ≤ 8) : ∀ i, i < 9 → y / (q + 1) ^ i % (q + 1) ≠ 0 → x * (q + 1) ^ i < (q + 1) ^ 9 := by
  intro i _ z
  have ln : i ≤ fd_dg q y := by
    rcases Nat.lt_or_ge (fd_dg q y) i with w | w
    · rw [fd_low (fd_dgu y0 hy) w, Nat.zero_mod] at z
      exact absurd rfl z
    · exact w
  exact Nat.lt_of_lt_of_le (fd_Ylt (fd_dgu h0 hx)) (fd_pm q (by omega))
theorem xw_i2 {k : Nat} {post : Int32 → Prop} {pw rg : Nat → Int32} (hq : q = 1 ∨ q = 2 ∨ q = 4) (hk : k < q + 1) (h1 : 1 ≤ k) (h : post (nI (fd_iv q k))) : ∀ d c n, 1 ≤ c → c + d = fd_iv q k → d < n → wX_inverseOf_2 post (nI k) (nI (q + 1)) pw rg n (nI c) := by
  obtain ⟨i1, i2, i3, i4⟩ := fd_ivd q hq k hk h1
  have q5 := fd_bq hq
  intro d
  induction d with
  | zero =>
    intro c n hc hd hn
    obtain ⟨n, rfl⟩ : ∃ j, n = j + 1 := ⟨n - 1, by omega⟩
    have e : c = fd_iv q k := by omega
    have b : c * k ≤ 5 * 5 := Nat.mul_le_mul (by omega) (by omega)
    refine br_f (nI_ge (by omega) (by omega)) ⟨fw_m hq, pk_eq (c * k % (q + 1)) 1 (fun _ => by rw [e]; exact h) (fun z => ?_) (by rw [pk_mul, pk_rem (by omega) (by omega) (by omega)]) rfl (by have := Nat.mod_lt (c * k) (show 0 < q + 1 by omega); omega) (by omega)⟩
    exfalso
    apply z
    rw [e, Nat.mul_comm]
    exact i3
  | succ d ih =>
    intro c n hc hd hn
    obtain ⟨n, rfl⟩ : ∃ j, n = j + 1 := ⟨n - 1, by omega⟩
    have b : c * k ≤ 5 * 5 := Nat.mul_le_mul (by omega) (by omega)
    refine br_f (nI_ge (by omega) (by omega)) ⟨fw_m hq, pk_eq (c * k % (q + 1)) 1 (fun z => ?_) (fun z => nm_r (nI_1 c) (ih (c + 1) n (by omega) (by omega) (by omega))) (by rw [pk_mul, pk_rem (by omega) (by omega) (by omega)]) rfl (by have := Nat.mod_lt (c * k) (show 0 < q + 1 by omega); omega) (by omega)⟩
    exfalso
    have := i4 c (by omega) z
    omega
theorem xw_i {k : Nat} {post : Int32 → Prop} (hq : q = 1 ∨ q = 2 ∨ q = 4) (hk : k < q + 1) (h1 : 1 ≤ k) (h : post (nI (fd_iv q k))) : wpX_inverseOf post (nI (q + 1), pw, rg) (nI k) := by
  obtain ⟨i1, i2, i3, i4⟩ := fd_ivd q hq k hk h1
  exact ⟨6, xw_i2 hq hk h1 h (fd_iv q k - 1) 1 6 (by omega) (by omega) (by have := fd_bq hq; omega)⟩
theorem fw_st {d v y i Q R : Nat} : fd_st q d v y i (Q, R) = (Q + R / (q + 1) ^ (d + i) * v % (q + 1) * (q + 1) ^ i, fd_c q R (q + 1 - R / (q + 1) ^ (d + i) * v % (q + 1)) (y * (q + 1) ^ i) 9) := rfl
theorem xw_q41 {d v y : Nat} {post : Int32 → Prop} (hq : q = 1 ∨ q = 2 ∨ q = 4) (hp : fw_P q pw) (hy : y < (q + 1) ^ (d + 1)) (hv : v < q + 1) : ∀ k n Q R, d + k ≤ 9 → k < n → R < (q + 1) ^ 9 → post (nI (fd_dv q d v y k (Q, R)).1) → wX_quotientOf_41 post (nI y) (nI d) (nI v) (nI (q + 1)) pw rg n (nI Q) (nI R) (nI k + (-1)) := by
  have b9 := fd_b9 hq
  have q5 := fd_bq hq
  intro k
  induction k with
  | zero =>
    intro n Q R _ hn _ h
    obtain ⟨n, rfl⟩ : ∃ j, n = j + 1 := ⟨n - 1, by omega⟩
    exact br_t (by decide) h
  | succ k ih =>
    intro n Q R hk hn hR h
    obtain ⟨n, rfl⟩ : ∃ j, n = j + 1 := ⟨n - 1, by omega⟩
    rw [pk_m1]
    have e := fw_at hp (show d + k < 10 by omega)
    have e2 := fw_at hp (show k < 10 by omega)
    have bR : R / (q + 1) ^ (d + k) ≤ R := Nat.div_le_self _ _
    have bv : R / (q + 1) ^ (d + k) * v ≤ R * 5 := Nat.mul_le_mul bR (by omega)
    have hc : R / (q + 1) ^ (d + k) * v % (q + 1) < q + 1 := Nat.mod_lt _ (by omega)
    have hY9 : y * (q + 1) ^ k < (q + 1) ^ 9 := Nat.lt_of_lt_of_le (fd_Ylt hy) (fd_pm q (by omega))
    have hin : vp_in (nI k) 10 := vp_in_nI (by omega) (by omega)
    refine br_f (nI_pos (by omega)) ⟨by rw [nI_add]; exact vp_in_nI (by omega) (by omega), by rw [nI_add]; exact fw_nz hq hp (by omega), fw_m hq, nm_r (e' := nI (R / (q + 1) ^ (d + k) * v % (q + 1))) ?_ ⟨hin, nm_r (e' := nI (Q + R / (q + 1) ^ (d + k) * v % (q + 1) * (q + 1) ^ k)) ?_ ⟨hin, ?_⟩⟩⟩
    · rw [nI_add, e, pk_div (by omega) (fd_pp q _) (fw_pl hq (by omega)), pk_mul, pk_rem (by omega) (by omega) (by omega)]
    · rw [e2, pk_mul, nI_add]
    · rw [e2, pk_mul, pk_sub (by omega)]
      exact xw_c hq hp hR hY9 (by omega) (nm_e (ih n _ _ (by omega) (by omega) (fd_clt q _ _ _ 9) h))
theorem xw_r38 {d v y : Nat} {post : Int32 → Prop} (hq : q = 1 ∨ q = 2 ∨ q = 4) (hp : fw_P q pw) (hy : y < (q + 1) ^ (d + 1)) (hv : v < q + 1) : ∀ k n Q R, d + k ≤ 9 → k < n → R < (q + 1) ^ 9 → post (nI (fd_dv q d v y k (Q, R)).2) → wX_remainderOf_38 post (nI y) (nI d) (nI v) (nI (q + 1)) pw rg n (nI R) (nI k + (-1)) := by
  have b9 := fd_b9 hq
  have q5 := fd_bq hq
  intro k
  induction k with
  | zero =>
    intro n Q R _ hn _ h
    obtain ⟨n, rfl⟩ : ∃ j, n = j + 1 := ⟨n - 1, by omega⟩
    exact br_t (by decide) h
  | succ k ih =>
    intro n Q R hk hn hR h
    obtain ⟨n, rfl⟩ : ∃ j, n = j + 1 := ⟨n - 1, by omega⟩
    rw [pk_m1]
    have e := fw_at hp (show d + k < 10 by omega)
    have e2 := fw_at hp (show k < 10 by omega)
    have bR : R / (q + 1) ^ (d + k) ≤ R := Nat.div_le_self _ _
    have bv : R / (q + 1) ^ (d + k) * v ≤ R * 5 := Nat.mul_le_mul bR (by omega)
    have hc : R / (q + 1) ^ (d + k) * v % (q + 1) < q + 1 := Nat.mod_lt _ (by omega)
    have hY9 : y * (q + 1) ^ k < (q + 1) ^ 9 := Nat.lt_of_lt_of_le (fd_Ylt hy) (fd_pm q (by omega))
    have hin : vp_in (nI k) 10 := vp_in_nI (by omega) (by omega)
    refine br_f (nI_pos (by omega)) ⟨by rw [nI_add]; exact vp_in_nI (by omega) (by omega), by rw [nI_add]; exact fw_nz hq hp (by omega), fw_m hq, nm_r (e' := nI (R / (q + 1) ^ (d + k) * v % (q + 1))) ?_ ⟨hin, ?_⟩⟩
    · rw [nI_add, e, pk_div (by omega) (fd_pp q _) (fw_pl hq (by omega)), pk_mul, pk_rem (by omega) (by omega) (by omega)]
    · rw [e2, pk_mul, pk_sub (by omega)]
      exact xw_c hq hp hR hY9 (by omega) (nm_e (ih n _ _ (by omega) (by omega) (fd_clt q _ _ _ 9) h))
theorem fw_sh1 {a d : Nat} (h : d ≤ a) : nI a + (-1) - nI d = nI (a - d) + (-1) := by
  obtain ⟨c, rfl⟩ : ∃ c, a = c + d := ⟨a - d, by omega⟩
  rw [Nat.add_sub_cancel, ← nI_add]
  grind
theorem fw_sh0 {a d : Nat} (h : a ≤ d) (hd : d < 1000) : nI a + (-1) - nI d < 0 := by
  have e : nI a + (-1) - nI d = nI a - nI (d + 1) := by
    rw [← nI_1]
    grind
  rw [e]
  exact pk_sneg (by omega) (by omega)
theorem fw_qr {x y : Nat} (hx : x < (q + 1) ^ 9) (hy : y < (q + 1) ^ 9) (h : fd_dg q y ≤ fd_ln q x) : fd_qr q x y = fd_dv q (fd_dg q y) (fd_iv q (fd_ld q y)) y (fd_ln q x - fd_dg q y) (0, x) := by
  have h9 := fd_l9 hx
  have k := fd_dv0 (q := q) (d := fd_dg q y) (v := fd_iv q (fd_ld q y)) (y := y) (i := fd_ln q x - fd_dg q y) (s := (0, x)) (by show x < _; rw [Nat.add_sub_cancel' h]; exact fd_l1 hx) (9 - fd_ln q x) (by omega)
  rw [← k]
  unfold fd_qr
  congr 1
  omega
theorem fw_qr0 {x y : Nat} (hx : x < (q + 1) ^ 9) (hy : y < (q + 1) ^ 9) (h : fd_ln q x ≤ fd_dg q y) : fd_qr q x y = (0, x) := by
  have h9 := fd_dg8 hy
  have k := fd_dv0 (q := q) (d := fd_dg q y) (v := fd_iv q (fd_ld q y)) (y := y) (i := 0) (s := (0, x)) (by show x < _; exact Nat.lt_of_lt_of_le (fd_l1 hx) (fd_pm q (by omega))) (9 - fd_dg q y) (by omega)
  rw [Nat.zero_add] at k
  exact k
theorem xw_q {x y : Nat} {post : Int32 → Prop} (hq : q = 1 ∨ q = 2 ∨ q = 4) (hp : fw_P q pw) (hx : x < (q + 1) ^ 9) (y0 : 0 < y) (hy : y < (q + 1) ^ 9) (h : post (nI (fd_qt q x y))) : wpX_quotientOf post (nI (q + 1), pw, rg) (nI x) (nI y) := by
  have d8 := fd_dg8 hy
  obtain ⟨l1, l2⟩ := fd_ldb y0 hy
  have e := fw_at hp (show fd_dg q y < 10 by omega)
  unfold wpX_quotientOf
  refine xw_degp hq hp y0 hy (br_t (nI_pos' (by omega)) ⟨vp_in_nI (by omega) (by omega), fw_nz hq hp (by omega), ?_⟩)
  rw [e, pk_div (fw_b hq hy) (fd_pp q _) (fw_pl hq (by omega))]
  refine xw_i hq l2 l1 (xw_deg hq hp hx ?_)
  unfold fd_qt at h
  rcases Nat.lt_or_ge (fd_ln q x) (fd_dg q y) with z | z
  · rw [fw_qr0 hx hy (by omega)] at h
    exact nm_e ⟨1, br_t (fw_sh0 (by omega) (by omega)) h⟩
  · rw [fw_qr hx hy z] at h
    have l9 := fd_l9 hx
    exact nm_r (fw_sh1 z) ⟨10, xw_q41 hq hp (fd_dgu y0 hy) (fd_ivd q hq _ l2 l1).2.1 _ 10 0 x (by omega) (by omega) hx h⟩
theorem xw_r {x y : Nat} {post : Int32 → Prop} (hq : q = 1 ∨ q = 2 ∨ q = 4) (hp : fw_P q pw) (hx : x < (q + 1) ^ 9) (y0 : 0 < y) (hy : y < (q + 1) ^ 9) (h : post (nI (fd_rm q x y))) : wpX_remainderOf post (nI (q + 1), pw, rg) (nI x) (nI y) := by
  have d8 := fd_dg8 hy
  obtain ⟨l1, l2⟩ := fd_ldb y0 hy
  have e := fw_at hp (show fd_dg q y < 10 by omega)
  unfold wpX_remainderOf
  refine xw_degp hq hp y0 hy (br_t (nI_pos' (by omega)) ⟨vp_in_nI (by omega) (by omega), fw_nz hq hp (by omega), ?_⟩)
  rw [e, pk_div (fw_b hq hy) (fd_pp q _) (fw_pl hq (by omega))]
  refine xw_i hq l2 l1 (xw_deg hq hp hx ?_)
  unfold fd_rm at h
  rcases Nat.lt_or_ge (fd_ln q x) (fd_dg q y) with z | z
  · rw [fw_qr0 hx hy (by omega)] at h
    exact nm_e ⟨1, br_t (fw_sh0 (by omega) (by omega)) h⟩
  · rw [fw_qr hx hy z] at h
    have l9 := fd_l9 hx
    exact nm_r (fw_sh1 z) ⟨10, xw_r38 hq hp (fd_dgu y0 hy) (fd_ivd q hq _ l2 l1).2.1 _ 10 0 x (by omega) (by omega) hx h⟩
theorem fd_mo0 (q : Nat) : fd_mo q 0 = 0 := by
  refine fd_inj (fd_mo9 0) (fd_pp q 9) (funext fun i => ?_)
  rw [fd_Dmo (fd_pp q 9)]
  show Fin.ofNat (q + 1) (fd_iv q (fd_ld q 0)) * fd_D q 0 i = fd_D q 0 i
  rw [fd_Dz]
  exact fs_rz (K := Fin (q + 1)) _
theorem xw_mo {x : Nat} {post : Int32 → Prop} (hq : q = 1 ∨ q = 2 ∨ q = 4) (hp : fw_P q pw) (hx : x < (q + 1) ^ 9) (h : post (nI (fd_mo q x))) : wpX_monicOf post (nI (q + 1), pw, rg) (nI x) := by
  unfold wpX_monicOf
  rcases Nat.eq_zero_or_pos x with z | z
  · subst z
    rw [fd_mo0] at h
    exact xw_deg0 hq hp (br_f (by decide) h)
  · obtain ⟨l1, l2⟩ := fd_ldb z hx
    have d8 := fd_dg8 hx
    have e := fw_at hp (show fd_dg q x < 10 by omega)
    refine xw_degp hq hp z hx (br_t (nI_pos' (by omega)) ⟨vp_in_nI (by omega) (by omega), fw_nz hq hp (by omega), ?_⟩)
    rw [e, pk_div (fw_b hq hx) (fd_pp q _) (fw_pl hq (by omega))]
    have i2 := (fd_ivd q hq _ l2 l1).2.1
    have q5 := fd_bq hq
    exact xw_i hq l2 l1 (xw_c (x := 0) hq hp (fd_pp q 9) hx (show fd_iv q (fd_ld q x) ≤ 5 by omega) h)
theorem xw_g8 {post : Int32 → Prop} (hq : q = 1 ∨ q = 2 ∨ q = 4) (hp : fw_P q pw) : ∀ d i n u v, i + d = 10 → d < n → u < (q + 1) ^ 9 → v < (q + 1) ^ 9 → post (nI (fd_mo q (fd_gc q d u v))) → wX_commonDivisorOf_8 post (nI (q + 1)) pw rg n (nI u) (nI v) (nI i) := by
  intro d
  induction d with
  | zero =>
    intro i n u v hi hn hu hv h
    obtain ⟨n, rfl⟩ : ∃ j, n = j + 1 := ⟨n - 1, by omega⟩
    exact br_t (nI_lt (a := 9) (by omega) (by omega)) (xw_mo hq hp hu h)
  | succ d ih =>
    intro i n u v hi hn hu hv h
    obtain ⟨n, rfl⟩ : ∃ j, n = j + 1 := ⟨n - 1, by omega⟩
    simp only [fd_gc] at h
    refine br_f (nI_nlt (b := i) (a := 9) (by omega) (by omega)) (pk_eq v 0 (fun z => ?_) (fun z => ?_) rfl rfl (fw_b hq hv) (by omega))
    · rw [if_pos z] at h
      exact xw_mo hq hp hu h
    · rw [if_neg z] at h
      have z0 : 0 < v := Nat.pos_of_ne_zero z
      exact xw_r hq hp hu z0 hv (nm_r (nI_1 i) (ih (i + 1) n v _ (by omega) (by omega) hv (fd_rm9 hq hu z0 hv) h))
theorem xw_g {u v : Nat} {post : Int32 → Prop} (hq : q = 1 ∨ q = 2 ∨ q = 4) (hp : fw_P q pw) (hu : u < (q + 1) ^ 9) (hv : v < (q + 1) ^ 9) (h : post (nI (fd_mo q (fd_gc q 10 u v)))) : wpX_commonDivisorOf post (nI (q + 1), pw, rg) (nI u) (nI v) :=
  ⟨11, xw_g8 hq hp 10 0 11 u v (by omega) (by omega) hu hv h⟩
theorem xw_d4 {x : Nat} {post : Int32 → Prop} (hq : q = 1 ∨ q = 2 ∨ q = 4) (hp : fw_P q pw) (hx : x < (q + 1) ^ 9) (h : post (nI (fd_de q x 8))) : ∀ d i n, i + d = 8 → d < n → wX_derivativeOf_4 post (nI x) (nI (q + 1)) pw rg n (nI (fd_de q x i)) (nI i) := by
  have b9 := fd_b9 hq
  have q5 := fd_bq hq
  intro d
  induction d with
  | zero =>
    intro i n hi hn
    obtain ⟨n, rfl⟩ : ∃ j, n = j + 1 := ⟨n - 1, by omega⟩
    have e : i = 8 := by omega
    subst e
    exact br_t (nI_le (a := 8) (b := 8) (by omega) (by omega)) h
  | succ d ih =>
    intro i n hi hn
    obtain ⟨n, rfl⟩ : ∃ j, n = j + 1 := ⟨n - 1, by omega⟩
    have e := fw_at hp (show i < 10 by omega)
    have e1 := fw_at hp (show i + 1 < 10 by omega)
    have bx : x / (q + 1) ^ (i + 1) ≤ x := Nat.div_le_self _ _
    have hm : x / (q + 1) ^ (i + 1) % (q + 1) < q + 1 := Nat.mod_lt _ (by omega)
    have bm : x / (q + 1) ^ (i + 1) % (q + 1) * (i + 1) ≤ 5 * 8 := Nat.mul_le_mul (by omega) (by omega)
    refine br_f (nI_ge (b := 8) (by omega) (by omega)) ⟨by rw [nI_1]; exact vp_in_nI (by omega) (by omega), by rw [nI_1]; exact fw_nz hq hp (by omega), fw_m hq, fw_m hq, nm_r (e' := nI (x / (q + 1) ^ (i + 1) % (q + 1) * (i + 1) % (q + 1))) ?_ ⟨vp_in_nI (by omega) (by omega), nm_r (e' := nI (fd_de q x (i + 1))) ?_ (nm_r (nI_1 i) (ih (i + 1) n (by omega) (by omega)))⟩⟩
    · rw [nI_1, e1, pk_div (by omega) (fd_pp q _) (fw_pl hq (by omega)), pk_rem (by omega) (by omega) (by omega), pk_mul, pk_rem (by omega) (by omega) (by omega)]
    · rw [e, pk_mul, nI_add]
      rfl
theorem xw_d {x : Nat} {post : Int32 → Prop} (hq : q = 1 ∨ q = 2 ∨ q = 4) (hp : fw_P q pw) (hx : x < (q + 1) ^ 9) (h : post (nI (fd_de q x 8))) : wpX_derivativeOf post (nI (q + 1), pw, rg) (nI x) :=
  ⟨9, xw_d4 hq hp hx h 8 0 9 (by omega) (by omega)⟩
theorem xw_v6 {x t : Nat} {post : Int32 → Prop} (hq : q = 1 ∨ q = 2 ∨ q = 4) (hp : fw_P q pw) (hx : x < (q + 1) ^ 9) (ht : t < q + 1) : ∀ k n v, k ≤ 9 → k < n → v < q + 1 → post (nI (fd_va q x t k v)) → wX_valueOf_6 post (nI x) (nI t) (nI (q + 1)) pw rg n (nI v) (nI k + (-1)) := by
  have b9 := fd_b9 hq
  have q5 := fd_bq hq
  intro k
  induction k with
  | zero =>
    intro n v _ hn _ h
    obtain ⟨n, rfl⟩ : ∃ j, n = j + 1 := ⟨n - 1, by omega⟩
    exact br_t (by decide) h
  | succ k ih =>
    intro n v hk hn hv h
    obtain ⟨n, rfl⟩ : ∃ j, n = j + 1 := ⟨n - 1, by omega⟩
    rw [pk_m1]
    have e := fw_at hp (show k < 10 by omega)
    have bx : x / (q + 1) ^ k ≤ x := Nat.div_le_self _ _
    have bm : v * t ≤ 5 * 5 := Nat.mul_le_mul (by omega) (by omega)
    refine br_f (nI_pos (by omega)) ⟨vp_in_nI (by omega) (by omega), fw_nz hq hp (by omega), fw_m hq, nm_r (e' := nI ((v * t + x / (q + 1) ^ k) % (q + 1))) ?_ (nm_e (ih n _ (by omega) (by omega) (Nat.mod_lt _ (by omega)) h))⟩
    rw [e, pk_div (by omega) (fd_pp q _) (fw_pl hq (by omega)), pk_mul, nI_add, pk_rem (by omega) (by omega) (by omega)]
theorem xw_v {x t : Nat} {post : Int32 → Prop} (hq : q = 1 ∨ q = 2 ∨ q = 4) (hp : fw_P q pw) (hx : x < (q + 1) ^ 9) (ht : t < q + 1) (h : post (nI (fd_va q x t 9 0))) : wpX_valueOf post (nI (q + 1), pw, rg) (nI x) (nI t) := by
  have e : (8 : Int32) = nI 9 + (-1) := by decide
  show ∃ n, wX_valueOf_6 post (nI x) (nI t) (nI (q + 1)) pw rg n 0 8
  rw [e]
  exact ⟨10, xw_v6 hq hp hx ht 9 10 0 (by omega) (by omega) (by omega) h⟩
end
