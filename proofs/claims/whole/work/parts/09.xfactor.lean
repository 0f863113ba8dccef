/-! X's own methods on factors -/
section
variable {q : Nat} {pw rg : Nat → Int32}
theorem fw_2 {a : Nat} : (2 : Int32) * nI a = nI (2 * a) := pk_mul 2 a
theorem xw_l30 {x m d : Nat} {post J : Int32 → Prop} {z : Int32} (hq : q = 1 ∨ q = 2 ∨ q = 4) (hp : fw_P q pw) (hx : x < (q + 1) ^ 9) (hF : fd_F q x m) (h1 : 1 ≤ d) (h8 : d ≤ 8) (hJ : (q + 1) ^ (d + 1) ≤ m → J (nI (d + 1))) (h : post (nI m)) : ∀ k c n, c + k = 2 * (q + 1) ^ d → k < n → (q + 1) ^ d ≤ c → c ≤ m → wX_leastFactorOf_30 post J (nI x) z (nI d) (nI (q + 1)) pw rg n (nI c) := by
  have b9 := fd_b9 hq
  have pd := fd_pm q (show d ≤ 9 by omega)
  obtain ⟨hM, hr, hl⟩ := hF
  obtain ⟨m0, m9, m1, _, _, m6, m7⟩ := fd_M0 hq hM
  have e := fw_at hp (show d < 10 by omega)
  intro k
  induction k with
  | zero =>
    intro c n hc hn hd hm
    obtain ⟨n, rfl⟩ : ∃ j, n = j + 1 := ⟨n - 1, by omega⟩
    refine ⟨vp_in_nI (by omega) (by omega), br_t (by rw [e, fw_2]; exact nI_le (by omega) (by omega)) (nm_r (nI_1 d) (hJ ?_))⟩
    rcases Nat.lt_or_ge d (fd_dg q m) with w | w
    · exact Nat.le_trans (fd_pm q w) m6
    · have := fd_pm q w
      omega
  | succ k ih =>
    intro c n hc hn hd hm
    obtain ⟨n, rfl⟩ : ∃ j, n = j + 1 := ⟨n - 1, by omega⟩
    have cM : fd_M q c := ⟨d, h1, h8, hd, by omega⟩
    obtain ⟨c0, c9, _⟩ := fd_M0 hq cM
    refine ⟨vp_in_nI (by omega) (by omega), br_f (by rw [e, fw_2]; exact nI_ge (by omega) (by omega)) (xw_r hq hp hx c0 c9 (pk_eq (fd_rm q x c) 0 (fun w => ?_) (fun w => nm_r (nI_1 c) (ih (c + 1) n (by omega) (by omega) (by omega) ?_)) rfl rfl (fw_b hq (fd_rm9 hq hx c0 c9)) (by omega)))⟩
    · rcases Nat.lt_or_ge c m with v | v
      · exact absurd w (hl c cM v)
      · have : c = m := by omega
        rw [this]
        exact h
    · rcases Nat.lt_or_ge c m with v | v
      · omega
      · have : c = m := by omega
        rw [this] at w
        exact absurd hr w
theorem xw_l15 {x m : Nat} {post : Int32 → Prop} (hq : q = 1 ∨ q = 2 ∨ q = 4) (hp : fw_P q pw) (h0 : 0 < x) (hx : x < (q + 1) ^ 9) (hF : fd_F q x m) (h : post (nI m)) : ∀ k d n, d + k = 9 → k < n → 1 ≤ d → (q + 1) ^ d ≤ m → wX_leastFactorOf_15 post (nI x) (nI (fd_dg q x)) (nI (q + 1)) pw rg n (nI d) := by
  have b9 := fd_b9 hq
  obtain ⟨m0, m9, m1, _, _, m6, m7⟩ := fd_M0 hq hF.1
  have x8 := fd_dg8 hx
  intro k
  induction k with
  | zero =>
    intro d n hd _ _ hm
    have : d = 9 := by omega
    subst this
    omega
  | succ k ih =>
    intro d n hd hn h1 hm
    obtain ⟨n, rfl⟩ : ∃ j, n = j + 1 := ⟨n - 1, by omega⟩
    have dm : d ≤ fd_dg q m := by
      rcases Nat.lt_or_ge (fd_dg q m) d with w | w
      · exfalso
        have a := fd_m2 hq m7
        have b := fd_pm q (show fd_dg q m + 1 ≤ d by omega)
        omega
      · exact w
    have e := fw_at hp (show d < 10 by omega)
    have pd := fd_pm q (show d ≤ 9 by omega)
    refine ⟨by decide, pk_lt (fd_dg q x / 2) d (fun w => ?_) (fun w => ⟨vp_in_nI (by omega) (by omega), nm_r e ⟨(q + 1) ^ d + 1, ?_⟩⟩) (pk_div (d := 2) (by omega) (by omega) (by omega)) rfl (by omega) (by omega)⟩
    · rcases fd_half hq hx h0 hF with v | v
      · omega
      · rw [v] at h
        exact xw_mo hq hp hx h
    · exact xw_l30 hq hp hx hF h1 (by omega) (fun v => ih (d + 1) n (by omega) (by omega) (by omega) v) h ((q + 1) ^ d) _ _ (by omega) (by omega) (Nat.le_refl _) hm
theorem xw_l {x : Nat} {post : Int32 → Prop} (hq : q = 1 ∨ q = 2 ∨ q = 4) (hp : fw_P q pw) (h0 : 0 < x) (hx : x < (q + 1) ^ 9) (h : post (nI (fd_lf q x))) : wpX_leastFactorOf post (nI (q + 1), pw, rg) (nI x) := by
  unfold wpX_leastFactorOf
  have x8 := fd_dg8 hx
  refine xw_degp hq hp h0 hx (pk_le 1 (fd_dg q x) (fun w => ⟨9, ?_⟩) (fun w => ?_) rfl rfl (by omega) (by omega))
  · have F := fd_lfF hq hx w
    obtain ⟨m0, m9, m1, _, _, m6, m7⟩ := fd_M0 hq F.1
    exact xw_l15 hq hp h0 hx F h 8 1 9 (by omega) (by omega) (by omega) (Nat.le_trans (fd_pm q m1) m6)
  · rw [fd_lf0 (by omega)] at h
    exact h
theorem fd_dg0 (q : Nat) : fd_dg q 0 = 0 := by
  unfold fd_dg
  rw [fd_ln0]
theorem xw_irr {x : Nat} {post : Int32 → Prop} (hq : q = 1 ∨ q = 2 ∨ q = 4) (hp : fw_P q pw) (hx : x < (q + 1) ^ 9) (h1 : 1 ≤ fd_dg q x → fd_dg q (fd_lf q x) = fd_dg q x → post 1) (h2 : ¬ (1 ≤ fd_dg q x ∧ fd_dg q (fd_lf q x) = fd_dg q x) → post 0) : wpX_isIrreducible post (nI (q + 1), pw, rg) (nI x) := by
  unfold wpX_isIrreducible
  rcases Nat.eq_zero_or_pos x with z | z
  · subst z
    refine xw_deg0 hq hp (br_f (by decide) (h2 ?_))
    rw [fd_dg0]
    omega
  · have x8 := fd_dg8 hx
    refine xw_degp hq hp z hx (pk_le 1 (fd_dg q x) (fun w => ?_) (fun w => h2 (by omega)) rfl rfl (by omega) (by omega))
    have F := fd_lfF hq hx w
    obtain ⟨m0, m9, m1, _⟩ := fd_M0 hq F.1
    have m8 := fd_dg8 m9
    refine xw_l hq hp z hx (xw_degp hq hp m0 m9 (pk_eq (fd_dg q (fd_lf q x)) (fd_dg q x) (fun v => h1 w v) (fun v => h2 (fun u => v u.2)) rfl rfl (by omega) (by omega)))
theorem xw_w5 {f : Nat} {post : Int32 → Prop} (hq : q = 1 ∨ q = 2 ∨ q = 4) (hp : fw_P q pw) (hf : fd_M q f) : ∀ d i n r, i + d = 8 → d < n → r < (q + 1) ^ 9 → post (nI (fd_wo q f d r)) → wX_without_5 post (nI f) (nI (q + 1)) pw rg n (nI r) (nI i) := by
  obtain ⟨f0, f9, _⟩ := fd_M0 hq hf
  intro d
  induction d with
  | zero =>
    intro i n r hi hn hr h
    obtain ⟨n, rfl⟩ : ∃ j, n = j + 1 := ⟨n - 1, by omega⟩
    exact br_t (nI_le (a := 8) (by omega) (by omega)) h
  | succ d ih =>
    intro i n r hi hn hr h
    obtain ⟨n, rfl⟩ : ∃ j, n = j + 1 := ⟨n - 1, by omega⟩
    simp only [fd_wo] at h
    refine br_f (nI_ge (b := 8) (by omega) (by omega)) (xw_r hq hp hr f0 f9 (pk_eq (fd_rm q r f) 0 (fun w => ?_) (fun w => ?_) rfl rfl (fw_b hq (fd_rm9 hq hr f0 f9)) (by omega)))
    · rw [if_pos w] at h
      exact xw_q hq hp hr f0 f9 (nm_r (nI_1 i) (ih (i + 1) n _ (by omega) (by omega) (fd_qt9 hq hr f0 f9) h))
    · rw [if_neg w] at h
      exact h
theorem xw_w {f r : Nat} {post : Int32 → Prop} (hq : q = 1 ∨ q = 2 ∨ q = 4) (hp : fw_P q pw) (hf : fd_M q f) (hr : r < (q + 1) ^ 9) (h : post (nI (fd_wo q f 8 r))) : wpX_without post (nI (q + 1), pw, rg) (nI r) (nI f) :=
  ⟨9, xw_w5 hq hp hf 8 0 9 r (by omega) (by omega) hr h⟩
theorem xw_m5 {f : Nat} {post : Int32 → Prop} (hq : q = 1 ∨ q = 2 ∨ q = 4) (hp : fw_P q pw) (hf : fd_M q f) : ∀ d i n r, i + d = 8 → d < n → r < (q + 1) ^ 9 → post (nI (i + fd_mu q f d r)) → wX_multiplicityOf_5 post (nI f) (nI (q + 1)) pw rg n (nI i) (nI r) := by
  obtain ⟨f0, f9, _⟩ := fd_M0 hq hf
  intro d
  induction d with
  | zero =>
    intro i n r hi hn hr h
    obtain ⟨n, rfl⟩ : ∃ j, n = j + 1 := ⟨n - 1, by omega⟩
    exact br_t (nI_le (a := 8) (by omega) (by omega)) h
  | succ d ih =>
    intro i n r hi hn hr h
    obtain ⟨n, rfl⟩ : ∃ j, n = j + 1 := ⟨n - 1, by omega⟩
    simp only [fd_mu] at h
    refine br_f (nI_ge (b := 8) (by omega) (by omega)) (xw_r hq hp hr f0 f9 (pk_eq (fd_rm q r f) 0 (fun w => ?_) (fun w => ?_) rfl rfl (fw_b hq (fd_rm9 hq hr f0 f9)) (by omega)))
    · rw [if_pos w] at h
      have e : i + (fd_mu q f d (fd_qt q r f) + 1) = i + 1 + fd_mu q f d (fd_qt q r f) := by omega
      rw [e] at h
      exact xw_q hq hp hr f0 f9 (nm_r (nI_1 i) (ih (i + 1) n _ (by omega) (by omega) (fd_qt9 hq hr f0 f9) h))
    · rw [if_neg w] at h
      exact h
theorem xw_mu {f r : Nat} {post : Int32 → Prop} (hq : q = 1 ∨ q = 2 ∨ q = 4) (hp : fw_P q pw) (hf : fd_M q f) (hr : r < (q + 1) ^ 9) (h : post (nI (fd_mu q f 8 r))) : wpX_multiplicityOf post (nI (q + 1), pw, rg) (nI r) (nI f) :=
  ⟨9, xw_m5 hq hp hf 8 0 9 r (by omega) (by omega) hr (by rw [Nat.zero_add]; exact h)⟩
theorem xw_n4 {post : Int32 → Prop} (hq : q = 1 ∨ q = 2 ∨ q = 4) (hp : fw_P q pw) : ∀ d i n r, i + d = 8 → d < n → 0 < r → r < (q + 1) ^ 9 → post (nI (i + fd_ct q d r)) → wX_factorCountOf_4 post (nI (q + 1)) pw rg n (nI i) (nI r) := by
  intro d
  induction d with
  | zero =>
    intro i n r hi hn r0 hr h
    obtain ⟨n, rfl⟩ : ∃ j, n = j + 1 := ⟨n - 1, by omega⟩
    exact br_t (nI_le (a := 8) (by omega) (by omega)) h
  | succ d ih =>
    intro i n r hi hn r0 hr h
    obtain ⟨n, rfl⟩ : ∃ j, n = j + 1 := ⟨n - 1, by omega⟩
    have r8 := fd_dg8 hr
    simp only [fd_ct] at h
    refine br_f (nI_ge (b := 8) (by omega) (by omega)) (xw_degp hq hp r0 hr (pk_le (fd_dg q r) 0 (fun w => ?_) (fun w => ?_) rfl rfl (by omega) (by omega)))
    · rw [if_neg (by omega)] at h
      exact h
    · rw [if_pos (by omega)] at h
      have F := fd_lfF hq hr w
      have s := fd_nxS hq r0 hr w
      have e : i + (fd_ct q d (fd_nx q r) + 1) = i + 1 + fd_ct q d (fd_nx q r) := by omega
      rw [e] at h
      refine xw_l hq hp r0 hr (xw_w hq hp F.1 hr (nm_r (nI_1 i) ?_))
      rw [← fd_nx1 w]
      exact ih (i + 1) n _ (by omega) (by omega) s.1 s.2.1 h
theorem xw_n {r : Nat} {post : Int32 → Prop} (hq : q = 1 ∨ q = 2 ∨ q = 4) (hp : fw_P q pw) (r0 : 0 < r) (hr : r < (q + 1) ^ 9) (h : post (nI (fd_ct q 8 r))) : wpX_factorCountOf post (nI (q + 1), pw, rg) (nI r) :=
  ⟨9, xw_n4 hq hp 8 0 9 r (by omega) (by omega) r0 hr (by rw [Nat.zero_add]; exact h)⟩
theorem xw_f17 {k : Nat} {post : Int32 → Prop} (hq : q = 1 ∨ q = 2 ∨ q = 4) (hp : fw_P q pw) (hk : k < 8) : ∀ d i n r, i + d = k → d < n → 0 < r → r < (q + 1) ^ 9 → post (nI (fd_lf q (fd_it q d r))) → wX_factorOf_17 post (nI k) (nI (q + 1)) pw rg n (nI r) (nI i) := by
  intro d
  induction d with
  | zero =>
    intro i n r hi hn r0 hr h
    obtain ⟨n, rfl⟩ : ∃ j, n = j + 1 := ⟨n - 1, by omega⟩
    exact br_t (nI_le (by omega) (by omega)) (xw_l hq hp r0 hr h)
  | succ d ih =>
    intro i n r hi hn r0 hr h
    obtain ⟨n, rfl⟩ : ∃ j, n = j + 1 := ⟨n - 1, by omega⟩
    have r8 := fd_dg8 hr
    refine br_f (nI_ge (by omega) (by omega)) (xw_degp hq hp r0 hr (pk_le (fd_dg q r) 0 (fun w => ?_) (fun w => ?_) rfl rfl (by omega) (by omega)))
    · rw [fd_it0 (by omega)] at h
      exact xw_l hq hp r0 hr h
    · have F := fd_lfF hq hr w
      have s := fd_nxS hq r0 hr w
      refine xw_l hq hp r0 hr (xw_w hq hp F.1 hr (nm_r (nI_1 i) ?_))
      rw [← fd_nx1 w]
      exact ih (i + 1) n _ (by omega) (by omega) s.1 s.2.1 h
theorem xw_f {k r : Nat} {post : Int32 → Prop} (hq : q = 1 ∨ q = 2 ∨ q = 4) (hp : fw_P q pw) (hk : k < 8) (r0 : 0 < r) (hr : r < (q + 1) ^ 9) (h : post (nI (fd_lf q (fd_it q k r)))) : wpX_factorOf post (nI (q + 1), pw, rg) (nI r) (nI k) :=
  br_f (nI_pos (by omega)) (br_t (nI_lt (b := 8) hk (by omega)) ⟨k + 1, xw_f17 hq hp hk k 0 (k + 1) r (by omega) (by omega) r0 hr h⟩)
theorem xw_f0 {m : Int32} {x : Int32} {r : Int32} {post : Int32 → Prop} (hx : x < 0 ∨ 8 ≤ x) (h : post 0) : wpX_factorOf post (m, pw, rg) r x := by
  by_cases z : x < 0
  · exact br_t z h
  · rcases hx with w | w
    · exact absurd w z
    · exact br_f z (br_f (Int32.not_lt.mpr w) h)
theorem xw_rd7 {post : Int32 → Prop} (hq : q = 1 ∨ q = 2 ∨ q = 4) (hp : fw_P q pw) : ∀ d i n a r, i + d = 8 → d < n → 0 < a → a < (q + 1) ^ 9 → 0 < r → r < (q + 1) ^ 9 → fd_dg q a + fd_dg q r ≤ 8 → post (nI (fd_rd q d a r)) → wX_radicalOf_7 post (nI (q + 1)) pw rg n (nI a) (nI r) (nI i) := by
  intro d
  induction d with
  | zero =>
    intro i n a r hi hn _ _ _ _ _ h
    obtain ⟨n, rfl⟩ : ∃ j, n = j + 1 := ⟨n - 1, by omega⟩
    exact br_t (nI_le (a := 8) (by omega) (by omega)) h
  | succ d ih =>
    intro i n a r hi hn a0 ha r0 hr h8 h
    obtain ⟨n, rfl⟩ : ∃ j, n = j + 1 := ⟨n - 1, by omega⟩
    have r8 := fd_dg8 hr
    simp only [fd_rd] at h
    refine br_f (nI_ge (b := 8) (by omega) (by omega)) (xw_degp hq hp r0 hr (pk_le (fd_dg q r) 0 (fun w => ?_) (fun w => ?_) rfl rfl (by omega) (by omega)))
    · rw [if_neg (by omega)] at h
      exact h
    · rw [if_pos (by omega)] at h
      have F := fd_lfF hq hr w
      obtain ⟨m0, m9, m1, _⟩ := fd_M0 hq F.1
      obtain ⟨s1, s2, s3, s4, s5, s6, s7⟩ := fd_nxS hq r0 hr w
      have v : fd_dg q (fd_lf q r) ≤ fd_mu q (fd_lf q r) 8 r * fd_dg q (fd_lf q r) := Nat.le_mul_of_pos_left _ s5
      obtain ⟨p0, pd⟩ := fd_prd hq ha a0 m0 m9 (by omega)
      refine xw_l hq hp r0 hr (xw_p hq hp ha m9 (fw_pd a0 ha m0 m9 (by omega)) (xw_w hq hp F.1 hr (nm_r (nI_1 i) ?_)))
      rw [← fd_nx1 w]
      exact ih (i + 1) n _ _ (by omega) (by omega) p0 (fd_pr9 _ _ 9) s1 s2 (by omega) h
theorem fd_1 (hq : q = 1 ∨ q = 2 ∨ q = 4) : 1 < (q + 1) ^ 9 ∧ fd_dg q 1 = 0 := by
  have h : 1 < (q + 1) ^ 1 := by
    rw [Nat.pow_one]
    have := fd_q1 hq
    omega
  have h9 : 1 < (q + 1) ^ 9 := Nat.lt_of_lt_of_le h (fd_pm q (by omega))
  have := fd_ll h9 h
  refine ⟨h9, ?_⟩
  unfold fd_dg
  omega
theorem xw_rd {r : Nat} {post : Int32 → Prop} (hq : q = 1 ∨ q = 2 ∨ q = 4) (hp : fw_P q pw) (r0 : 0 < r) (hr : r < (q + 1) ^ 9) (h : post (nI (fd_rd q 8 1 r))) : wpX_radicalOf post (nI (q + 1), pw, rg) (nI r) := by
  obtain ⟨a, b⟩ := fd_1 hq
  have r8 := fd_dg8 hr
  exact ⟨9, xw_rd7 hq hp 8 0 9 1 r (by omega) (by omega) (by omega) a r0 hr (by omega) h⟩
end
