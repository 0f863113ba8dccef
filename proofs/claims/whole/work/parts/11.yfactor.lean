/-! Y's strip, split, isPrime -/
section
variable {q : Nat} {en : Int32} {rg : Nat → Int32}
theorem yw_s0 {post : Int32 → SY → Prop} {c r t : Int32} {k : Nat} {p rm fo : Int32} {fa og : Nat → Int32} (h : wY_strip_76 post c r t p en rm fo rg fa og) : ∀ n, 0 < n → wY_strip_11 post c n r t 0 (nI k) p en rm fo rg fa og := by
  intro n hn
  obtain ⟨n, rfl⟩ : ∃ j, n = j + 1 := ⟨n - 1, by omega⟩
  exact br_c (fun _ => h) (fun _ => br_t rfl h)
theorem yw_s11 {post : Int32 → SY → Prop} {c : Nat} {fo : Int32} {fa og : Nat → Int32} (hq : q = 1 ∨ q = 2 ∨ q = 4) (hc : fd_M q c) : ∀ d k n r t rm, k + d = 9 → d < n → 0 < r → r < (q + 1) ^ 9 → (∀ rm', wY_strip_76 post (nI c) (nI (fd_wo q c d r)) (nI (t + fd_mu q c d r)) (nI (q + 1)) en rm' fo rg fa og) → wY_strip_11 post (nI c) n (nI r) (nI t) 1 (nI k) (nI (q + 1)) en rm fo rg fa og := by
  obtain ⟨c0, c9, c1, _⟩ := fd_M0 hq hc
  intro d
  induction d with
  | zero =>
    intro k n r t rm hk hn _ _ h
    obtain ⟨n, rfl⟩ : ∃ j, n = j + 1 := ⟨n - 1, by omega⟩
    exact br_t (nI_le (a := 9) (by omega) (by omega)) (h rm)
  | succ d ih =>
    intro k n r t rm hk hn r0 hr h
    obtain ⟨n, rfl⟩ : ∃ j, n = j + 1 := ⟨n - 1, by omega⟩
    simp only [fd_wo, fd_mu] at h
    refine br_f (nI_ge (b := 9) (by omega) (by omega)) (br_f (by decide) (pk_le r 1 (fun z => ?_) (fun z => ?_) rfl rfl (fw_b hq hr) (by omega)))
    · have e : r = 1 := by omega
      have nz : fd_rm q r c ≠ 0 := fd_nd hq hc r0 hr (by rw [e, (fd_1 hq).2]; omega)
      rw [if_neg nz, if_neg nz] at h
      exact br_t (nI_le (b := 1) z (by omega)) (br_t rfl (nm_r (nI_1 k) (yw_s0 (h rm) n (by omega))))
    · have k0 := (fd_rm9 hq hr c0 c9)
      refine yw_q hq hr c0 c9 (br_f (nI_ge (a := 1) z (fw_b hq hr)) (pk_eq (fd_rm q r c) 0 (fun w => ?_) (fun w => ?_) rfl rfl (fw_b hq k0) (by omega)))
      · rw [if_pos w, if_pos w] at h
        refine br_f (by decide) (nm_r (nI_1 t) (nm_r (nI_1 k) (ih (k + 1) n _ (t + 1) _ (by omega) (by omega) (fd_cof hq hr r0 c0 c9 w).1 (fd_qt9 hq hr c0 c9) (fun rm' => ?_))))
        have e : t + (fd_mu q c d (fd_qt q r c) + 1) = t + 1 + fd_mu q c d (fd_qt q r c) := by omega
        rw [e] at h
        exact h rm'
      · rw [if_neg w, if_neg w] at h
        exact br_t rfl (nm_r (nI_1 k) (yw_s0 (h _) n (by omega)))
theorem yw_s {post : Int32 → SY → Prop} {c r j : Nat} {rm : Int32} {fa og : Nat → Int32} (hq : q = 1 ∨ q = 2 ∨ q = 4) (hc : fd_M q c) (r0 : 0 < r) (hr : r < (q + 1) ^ 9) (h0 : fd_rm q r c ≠ 0 → ∀ rm', post (nI r) (nI (q + 1), en, rm', nI j, rg, fa, og)) (h1 : fd_rm q r c = 0 → j < 8 ∧ ∀ rm', post (nI (fd_wo q c 8 r)) (nI (q + 1), en, rm', nI (j + 1), rg, upd fa j (nI c), upd og j (nI (fd_mu q c 8 r)))) : wpY_strip post (nI (q + 1), en, rm, nI j, rg, fa, og) (nI r) (nI c) := by
  obtain ⟨a1, a2, a3, a4, a5, a6⟩ := fd_woS hq hc 8 r r0 hr (fd_dg8 hr)
  obtain ⟨b1, b2⟩ := a5 9 (by omega)
  obtain ⟨c0, c9, c1, _⟩ := fd_M0 hq hc
  have r8 := fd_dg8 hr
  refine ⟨10, yw_s11 hq hc 9 0 10 r 0 rm (by omega) (by omega) r0 hr (fun rm' => ?_)⟩
  rw [Nat.zero_add, b1, b2]
  rcases Classical.em (fd_rm q r c = 0) with z | z
  · obtain ⟨j8, k⟩ := h1 z
    have m1 : 1 ≤ fd_mu q c 8 r := by
      show 1 ≤ if fd_rm q r c = 0 then fd_mu q c 7 (fd_qt q r c) + 1 else 0
      rw [if_pos z]
      omega
    have m8 : fd_mu q c 8 r ≤ 8 := by
      have : fd_mu q c 8 r ≤ fd_mu q c 8 r * fd_dg q c := Nat.le_mul_of_pos_right _ c1
      omega
    have jn : vp_in (nI j) 8 := vp_in_nI (by omega) (by omega)
    refine br_f (nI_nle m1 (by omega)) (br_f (nI_ge (b := 8) (by omega) (by omega)) ⟨jn, nm_r (e' := upd fa j (nI c)) ?_ ⟨jn, nm_r (e' := upd og j (nI (fd_mu q c 8 r))) ?_ (nm_r (nI_1 j) (k rm'))⟩⟩)
    · rw [nI_clamp (by omega)]
    · rw [nI_clamp (by omega)]
  · have m0 : fd_mu q c 8 r = 0 := by
      show (if fd_rm q r c = 0 then fd_mu q c 7 (fd_qt q r c) + 1 else 0) = 0
      rw [if_neg z]
    have w0 : fd_wo q c 8 r = r := by
      show (if fd_rm q r c = 0 then fd_wo q c 7 (fd_qt q r c) else r) = r
      rw [if_neg z]
    rw [m0, w0]
    exact br_t (nI_le (a := 0) (b := 0) (by omega) (by omega)) (h0 z rm')
def fw_End (q : Nat) (en : Int32) (rg : Nat → Int32) (post : SY → Prop) (y j : Nat) (fa og : Nat → Int32) : Prop :=
  ∀ rm' fa' og', fd_G q y j fa og fa' og' → post (nI (q + 1), en, rm', nI (j + fd_ct q 8 y), rg, fa', og')
theorem yw_82 {post : SY → Prop} {J19 : Int32 → Int32 → Int32 → Int32 → Int32 → Int32 → Int32 → (Nat → Int32) → (Nat → Int32) → (Nat → Int32) → Prop} {J29 : Int32 → Int32 → Int32 → Int32 → Int32 → Int32 → (Nat → Int32) → (Nat → Int32) → (Nat → Int32) → Prop} {x3 x4 : Int32} {c y j : Nat} {rm : Int32} {fa og : Nat → Int32} (hq : q = 1 ∨ q = 2 ∨ q = 4) (hc : fd_M q c) (hY : fd_Y q y) (hN : fd_N q c y) (hj : j + fd_dg q y ≤ 8) (hE : fw_End q en rg post y j fa og)
    (hJ : ∀ y' j' rm' fa' og', fd_Y q y' → fd_N q (c + 1) y' → j' + fd_dg q y' ≤ 8 → fw_End q en rg post y' j' fa' og' → J29 (nI y') (nI (c + 1)) (nI (q + 1)) en rm' (nI j') rg fa' og') :
    wY_split_82 post J19 J29 (nI y) x3 x4 (nI c) (nI (fd_dg q y)) (nI (q + 1)) en rm (nI j) rg fa og := by
  have y0 := fd_Y0 hY
  have y9 := hY.2.2
  obtain ⟨c0, c9, c1, _⟩ := fd_M0 hq hc
  refine pk_le (fd_dg q y) 0 (fun z => nm_r (nI_1 c) (hJ y j rm fa og hY (fd_N0 hq y0 y9 (by omega) _) hj hE)) (fun z => ?_) rfl rfl (by omega) (by omega)
  refine yw_s hq hc y0 y9 (fun w rm' => nm_r (nI_1 c) (hJ y j rm' fa og hY (fd_Ns hN w) hj hE)) (fun w => ⟨by omega, fun rm' => nm_r (nI_1 c) (hJ _ _ rm' _ _ (fd_Yw hq hc 8 y hY) (fd_Nw hq y0 y9 hN hc) ?_ ?_)⟩)
  · obtain ⟨d1, d2⟩ := fd_NF hq y0 y9 hN hc w
    have s := fd_nxS hq y0 y9 d1
    rw [fd_nx1 d1, d2] at s
    have := s.2.2.2.2.2.1
    omega
  · obtain ⟨d1, d2⟩ := fd_NF hq y0 y9 hN hc w
    intro rm2 fa2 og2 hG
    have e : fd_wo q c 8 y = fd_nx q y := by rw [fd_nx1 d1, d2]
    rw [e] at hG ⊢
    have e2 : j + 1 + fd_ct q 8 (fd_nx q y) = j + fd_ct q 8 y := by
      rw [fd_ct1 hq y0 y9 d1]
      omega
    rw [e2]
    refine hE rm2 fa2 og2 (fd_G1 hq y0 y9 d1 ?_)
    rw [d2]
    exact hG
theorem yw_29 {post : SY → Prop} {J19 : Int32 → Int32 → Int32 → Int32 → Int32 → Int32 → Int32 → (Nat → Int32) → (Nat → Int32) → (Nat → Int32) → Prop} {d : Nat} (hq : q = 1 ∨ q = 2 ∨ q = 4) (h1 : 1 ≤ d) (h8 : d ≤ 8)
    (hJ : ∀ y' j' rm' fa' og', fd_Y q y' → fd_N q ((q + 1) ^ (d + 1)) y' → j' + fd_dg q y' ≤ 8 → fw_End q en rg post y' j' fa' og' → J19 (nI y') (nI ((q + 1) ^ (d + 1))) (nI (d + 1)) (nI (q + 1)) en rm' (nI j') rg fa' og') :
    ∀ n c y j rm fa og, 2 * (q + 1) ^ d < n + c → (q + 1) ^ d ≤ c → c ≤ 2 * (q + 1) ^ d → fd_Y q y → fd_N q c y → j + fd_dg q y ≤ 8 → fw_End q en rg post y j fa og → wY_split_29 post J19 (nI ((q + 1) ^ d)) (nI d) n (nI y) (nI c) (nI (q + 1)) en rm (nI j) rg fa og := by
  have b9 := fd_b9 hq
  have pd := fd_pm q (show d ≤ 9 by omega)
  have pp := fd_pp q d
  intro n
  induction n with
  | zero => intro c y j rm fa og hn _ hc; omega
  | succ n ih =>
    intro c y j rm fa og hn hlo hhi hY hN hj hE
    have y0 := fd_Y0 hY
    have y9 := hY.2.2
    have yb := fw_b hq y9
    have y8 := fd_dg8 y9
    refine pk_le (2 * (q + 1) ^ d) c (fun z => nm_r (e' := nI ((q + 1) ^ (d + 1))) (by rw [pk_mul, ← fd_ps]) (nm_r (nI_1 d) (hJ y j rm fa og hY (fd_Nd hq ?_) hj hE))) (fun z => yw_degp hq y0 y9 ?_) fw_2 rfl (by omega) (by omega)
    · have e : c = 2 * (q + 1) ^ d := by omega
      rw [← e]
      exact hN
    · have cM : fd_M q c := ⟨d, h1, h8, hlo, z⟩
      have lM : fd_M q (2 * (q + 1) ^ d - 1) := ⟨d, h1, h8, by omega, by omega⟩
      have e3 : (2 : Int32) * nI ((q + 1) ^ d) - 1 = nI (2 * (q + 1) ^ d - 1) := by
        rw [fw_2]
        exact pk_sub (b := 1) (by omega)
      have go : ∀ c', c ≤ c' → c' < 2 * (q + 1) ^ d → fd_N q c' y → wY_split_82 post J19 (wY_split_29 post J19 (nI ((q + 1) ^ d)) (nI d) n) (nI y) (nI ((q + 1) ^ d)) (nI d) (nI c') (nI (fd_dg q y)) (nI (q + 1)) en rm (nI j) rg fa og := by
        intro c' l1 l2 hN'
        exact yw_82 hq ⟨d, h1, h8, by omega, l2⟩ hY hN' hj hE (fun y' j' rm' fa' og' a b c2 d2 => ih (c' + 1) y' j' rm' fa' og' (by omega) (by omega) (by omega) a b c2 d2)
      have last : ¬ (1 ≤ fd_dg q y ∧ y < 2 * (q + 1) ^ d ∧ c ≤ y) → fd_dg q y < 2 * d → wY_split_75 post J19 (wY_split_29 post J19 (nI ((q + 1) ^ d)) (nI d) n) (nI y) (nI ((q + 1) ^ d)) (nI d) (nI (fd_dg q y)) (nI (q + 1)) en rm (nI j) rg fa og := by
        intro k1 k2
        have N2 := (fd_Nbig hq hY k2 hlo hN).2 k1
        unfold wY_split_75 wY_split_80
        rw [e3]
        exact go _ (by omega) (by omega) (fun l hl hll => N2 l hl (by omega))
      refine pk_le (2 * d) (fd_dg q y) (fun w => go c (Nat.le_refl _) z hN) (fun w => ?_) fw_2 rfl (by omega) (by omega)
      refine pk_le (fd_dg q y) 0 (fun v => last (by omega) w) (fun v => ?_) rfl rfl (by omega) (by omega)
      refine pk_le (2 * (q + 1) ^ d) y (fun u => last (by omega) w) (fun u => ?_) fw_2 rfl (by omega) yb
      refine pk_lt y c (fun t => last (by omega) w) (fun t => ?_) rfl rfl yb (by omega)
      exact go y t u (fd_Nbig hq hY w hlo hN).1
theorem yw_19 {post : SY → Prop} (hq : q = 1 ∨ q = 2 ∨ q = 4) : ∀ k d n y j rm fa og, d + k = 9 → k < n → 1 ≤ d → fd_Y q y → fd_N q ((q + 1) ^ d) y → j + fd_dg q y ≤ 8 → fw_End q en rg post y j fa og → wY_split_19 post n (nI y) (nI ((q + 1) ^ d)) (nI d) (nI (q + 1)) en rm (nI j) rg fa og := by
  intro k
  induction k with
  | zero =>
    intro d n y j rm fa og hd hn h1 hY hN hj hE
    obtain ⟨n, rfl⟩ : ∃ j, n = j + 1 := ⟨n - 1, by omega⟩
    have e : d = 9 := by omega
    subst e
    have z : fd_dg q y = 0 := fd_Ne hq hY (fun l hl hll => hN l hl (Nat.lt_of_lt_of_le (Nat.lt_of_lt_of_le hll (by
      rw [fd_ps q 8, Nat.mul_comm]
      exact Nat.mul_le_mul_left _ (by have := fd_q1 hq; omega))) (Nat.le_refl _)))
    have K := hE rm fa og (fd_G0 z)
    rw [fd_ct0 z, Nat.add_zero] at K
    exact br_t (nI_le (a := 9) (b := 9) (by omega) (by omega)) K
  | succ k ih =>
    intro d n y j rm fa og hd hn h1 hY hN hj hE
    obtain ⟨n, rfl⟩ : ∃ j, n = j + 1 := ⟨n - 1, by omega⟩
    refine br_f (nI_ge (b := 9) (by omega) (by omega)) ⟨(q + 1) ^ d + 1, yw_29 hq h1 (by omega) (fun y' j' rm' fa' og' a b c2 d2 => ih (d + 1) n y' j' rm' fa' og' (by omega) (by omega) (by omega) a b c2 d2) _ ((q + 1) ^ d) y j rm fa og (by omega) (Nat.le_refl _) (by omega) hY hN hj hE⟩
theorem yw_split {post : SY → Prop} {x : Nat} {rm fo : Int32} {fa og : Nat → Int32} (hq : q = 1 ∨ q = 2 ∨ q = 4) (x0 : 0 < x) (hx : x < (q + 1) ^ 9) (h : ∀ rm' fa' og', (∀ t, t < fd_ct q 8 x → fa' t = nI (fd_lf q (fd_it q t x)) ∧ og' t = nI (fd_mu q (fd_lf q (fd_it q t x)) 8 (fd_it q t x))) → post (nI (q + 1), en, rm', nI (fd_ct q 8 x), rg, fa', og')) : wpY_split post (nI (q + 1), en, rm, fo, rg, fa, og) (nI x) := by
  have hY := fd_Ymo hq x0 hx
  have hS := fd_Smo hq x0 hx
  have m0 := fd_Y0 hY
  have m9 := fd_mo9 (q := q) x
  have ec := fd_Sct hq 8 _ _ m9 hx hS m0
  have K := yw_19 (en := en) (rg := rg) (post := post) hq 8 1 9 (fd_mo q x) 0 rm fa og (by omega) (by omega) (by omega) hY (by rw [Nat.pow_one]; exact fd_Np hq) (by have := fd_dg8 m9; omega) (fun rm' fa' og' hG => by
    rw [Nat.zero_add, ec]
    refine h rm' fa' og' (fun t ht => ?_)
    rw [← ec] at ht
    have g := hG.2 t ht
    rw [Nat.zero_add] at g
    obtain ⟨i0, i9⟩ := fd_itb hq t _ m0 m9
    obtain ⟨k0, k9⟩ := fd_itb hq t x x0 hx
    have S2 := fd_Sit hq t _ _ m9 hx hS m0
    have d1 := ((fd_ctS hq 8 _ m0 m9 (fd_dg8 m9)).2 t).mpr ht
    have e1 := fd_Slf hq i9 k9 S2 i0
    have e2 := (fd_woc hq (fd_lfF hq i9 d1).1 8 _ _ i9 k9 S2).2
    rw [e2, e1] at g
    exact g)
  rw [Nat.pow_one] at K
  unfold wpY_split
  exact yw_mo hq hx ⟨9, K⟩
theorem yw_irr {post : Int32 → SY → Prop} {x : Nat} {rm fo : Int32} {fa og : Nat → Int32} (hq : q = 1 ∨ q = 2 ∨ q = 4) (hx : x < (q + 1) ^ 9) (h1 : 1 ≤ fd_dg q x → fd_dg q (fd_lf q x) = fd_dg q x → ∀ rm' fo' fa' og', post 1 (nI (q + 1), en, rm', fo', rg, fa', og')) (h2 : ¬ (1 ≤ fd_dg q x ∧ fd_dg q (fd_lf q x) = fd_dg q x) → ∀ rm' fo' fa' og', post 0 (nI (q + 1), en, rm', fo', rg, fa', og')) : wpY_isPrime post (nI (q + 1), en, rm, fo, rg, fa, og) (nI x) := by
  have q5 := fd_bq hq
  unfold wpY_isPrime
  refine pk_le (q + 1) x (fun z => ?_) (fun z => h2 ?_ _ _ _ _) rfl rfl (by omega) (fw_b hq hx)
  · have x0 : 0 < x := by omega
    have x8 := fd_dg8 hx
    have d1 : 1 ≤ fd_dg q x := by
      rcases Nat.lt_or_ge (fd_dg q x) 1 with w | w
      · have a := fd_dgu x0 hx
        have b := fd_pm q (show fd_dg q x + 1 ≤ 1 by omega)
        rw [Nat.pow_one] at b
        omega
      · exact w
    have I := fd_irr hq x0 hx d1
    have c := fd_ctS hq 8 x x0 hx x8
    have c0 : 0 < fd_ct q 8 x := (c.2 0).mp d1
    refine yw_split hq x0 hx (fun rm' fa' og' g => ?_)
    have g0 := (g 0 c0).2
    obtain ⟨s1, s2, s3, s4, s5, s6, s7⟩ := fd_nxS hq x0 hx d1
    have m8 : fd_mu q (fd_lf q x) 8 x ≤ 8 := by
      have m1 := (fd_M0 hq (fd_lfF hq hx d1).1).2.2.1
      have : fd_mu q (fd_lf q x) 8 x ≤ fd_mu q (fd_lf q x) 8 x * fd_dg q (fd_lf q x) := Nat.le_mul_of_pos_right _ m1
      omega
    refine pk_eq (fd_ct q 8 x) 1 (fun w => pk_eq (fd_mu q (fd_lf q x) 8 x) 1 (fun v => h1 d1 (I.mpr ⟨w, v⟩) _ _ _ _) (fun v => h2 (fun u => v (I.mp u.2).2) _ _ _ _) g0 rfl (by omega) (by omega)) (fun w => h2 (fun u => w (I.mp u.2).1) _ _ _ _) rfl rfl (by omega) (by omega)
  · intro u
    have := fd_ll hx (show x < (q + 1) ^ 1 by rw [Nat.pow_one]; exact z)
    have := u.1
    unfold fd_dg at this
    omega
end
