/-! multiply, divide, divisor, derive, valueAt, roots -/
theorem fd_c00 (q k : Nat) : ∀ n, fd_c q 0 k 0 n = 0 := by
  intro n
  induction n with
  | zero => rfl
  | succ n ih =>
    simp only [fd_c]
    rw [ih, Nat.zero_div, Nat.mul_zero, Nat.zero_mod, Nat.zero_mul]
theorem fd_p0x (q y : Nat) : ∀ n, fd_pr q 0 y n = 0 := by
  intro n
  induction n with
  | zero => rfl
  | succ n ih =>
    simp only [fd_pr]
    rw [ih, Nat.zero_mul, fd_c00]
theorem fd_px0 (q x : Nat) : ∀ n, fd_pr q x 0 n = 0 := by
  intro n
  induction n with
  | zero => rfl
  | succ n ih =>
    simp only [fd_pr]
    rw [ih, Nat.zero_div, Nat.zero_mod, fd_cp (Nat.zero_mod _) (fd_pp q 9)]
theorem fw_neg {q x : Nat} (h : x = 0) : nI (fd_ln q x) + (-1) < 0 := by
  subst h
  rw [fw_d0]
  decide
theorem fw_nn {q x : Nat} (h0 : 0 < x) (hx : x < (q + 1) ^ 9) : ¬ nI (fd_ln q x) + (-1) < 0 := by
  rw [fw_dI h0 hx]
  exact nI_pos (by have := fd_dg8 hx; omega)
theorem fw_m1d : ∀ n, n < 9 → (-1 : Int32) + nI n ≤ 8 ∧ nI n + (-1 : Int32) ≤ 8 := by decide
theorem i_vc_multiply {k : Nat} {u : SX} {v : SY} (I : i_Rel k u v) (hk : k + 4 ≤ 2049) (v1 : Int32) (v2 : Int32) : wpX_multiply (fun r u' => wpY_multiply (fun r' v' => r' = r ∧ i_Rel (k + 4) u' v') v v1 v2) u v1 v2 := by
  obtain ⟨q, pw, rg, rm, fo, fa, og, hq, rfl, rfl, hp, hr⟩ := I
  unfold wpX_multiply wpY_multiply
  dsimp only
  rcases fw_ix v1 with hb | ⟨j, hj, rfl⟩
  · exact xreg0 hb (br_t rfl (ybad1 hb (br_f (by decide) ⟨rfl, fw_rel hq hp hr⟩)))
  · refine xreg1 hj (br_f (by decide) ?_)
    rcases fw_ix v2 with hb | ⟨l, hl, rfl⟩
    · exact xreg0 hb (br_t rfl (ybad0 hj (br_t rfl (ybad1 hb (br_f (by decide) ⟨rfl, fw_rel hq hp hr⟩)))))
    · have hin : vp_in (nI j) 3 := vp_in_nI hj (by omega)
      have hil : vp_in (nI l) 3 := vp_in_nI hl (by omega)
      obtain ⟨x, hx, e⟩ := fw_rg hr hj
      obtain ⟨y, hy, e2⟩ := fw_rg hr hl
      have x8 := fd_dg8 hx
      have y8 := fd_dg8 hy
      refine xreg1 hl (br_f (by decide) ⟨hin, ?_⟩)
      rw [e, e2]
      refine xw_deg hq hp hx ⟨hil, xw_deg hq hp hy ?_⟩
      rcases Nat.eq_zero_or_pos x with x0 | x0
      · have le : nI (fd_ln q x) + (-1) + (nI (fd_ln q y) + (-1)) ≤ 8 := by
          rw [x0, fw_d0]
          rcases Nat.eq_zero_or_pos y with y0 | y0
          · rw [y0, fw_d0]
            decide
          · rw [fw_dI y0 hy]
            exact (fw_m1d _ (by omega)).1
        have pz : fd_pr q x y 9 = 0 := by rw [x0, fd_p0x]
        refine br_t le ⟨hin, hil, xw_p hq hp hx hy (fun i _ _ => by rw [x0, Nat.zero_mul]; exact fd_pp q 9) ?_⟩
        rw [pz]
        refine ⟨hin, nm_e ⟨hin, ybad0 hj (br_t rfl (ybad0 hl (br_t rfl ⟨hin, ?_⟩)))⟩⟩
        exact yw_deg hq hx ⟨hil, yw_deg hq hy (br_t (fw_neg x0) (br_t (fw_neg x0) ⟨hin, nm_e ⟨hin, rfl, fw_rel hq hp (fw_Ru hr (fd_pp q 9))⟩⟩))⟩
      · rcases Nat.eq_zero_or_pos y with y0 | y0
        · have le : nI (fd_ln q x) + (-1) + (nI (fd_ln q y) + (-1)) ≤ 8 := by
            rw [y0, fw_d0, fw_dI x0 hx]
            exact (fw_m1d _ (by omega)).2
          have pz : fd_pr q x y 9 = 0 := by rw [y0, fd_px0]
          refine br_t le ⟨hin, hil, xw_p hq hp hx hy (fun i _ z => by rw [y0, Nat.zero_div, Nat.zero_mod] at z; exact absurd rfl z) ?_⟩
          rw [pz]
          refine ⟨hin, nm_e ⟨hin, ybad0 hj (br_t rfl (ybad0 hl (br_t rfl ⟨hin, ?_⟩)))⟩⟩
          exact yw_deg hq hx ⟨hil, yw_deg hq hy (br_f (fw_nn x0 hx) (br_t (fw_neg y0) (br_f (fw_nn x0 hx) (br_f (fun z => absurd (Int32.lt_of_le_of_lt z (fw_neg y0)) (by decide)) ⟨hin, nm_e ⟨hin, rfl, fw_rel hq hp (fw_Ru hr (fd_pp q 9))⟩⟩))))⟩
        · have es : nI (fd_ln q x) + (-1) + (nI (fd_ln q y) + (-1)) = nI (fd_dg q x + fd_dg q y) := by
            rw [fw_dI x0 hx, fw_dI y0 hy, nI_add]
          have ge : (0 : Int32) ≤ nI (fd_ln q y) + (-1) := Int32.not_lt.mp (fw_nn y0 hy)
          by_cases le : nI (fd_ln q x) + (-1) + (nI (fd_ln q y) + (-1)) ≤ 8
          · have ld : fd_dg q x + fd_dg q y ≤ 8 := by
              rw [es] at le
              exact (nI_leI (b := 8) (by omega) (by omega)).mp le
            refine br_t le ⟨hin, hil, xw_p hq hp hx hy (fw_pd x0 hx y0 hy ld) ⟨hin, nm_e ⟨hin, ybad0 hj (br_t rfl (ybad0 hl (br_t rfl ⟨hin, ?_⟩)))⟩⟩⟩
            refine yw_deg hq hx ⟨hil, yw_deg hq hy (br_f (fw_nn x0 hx) (br_f (fw_nn y0 hy) (br_t le (br_f (fw_nn x0 hx) (br_t ge ⟨hin, hil, ?_⟩)))))⟩
            rw [e, e2]
            exact yw_p hq hx x0 y0 hy ld ⟨hin, nm_e ⟨hin, rfl, fw_rel hq hp (fw_Ru hr (fd_pr9 x y 9))⟩⟩
          · refine br_f le (ybad0 hj (br_t rfl (ybad0 hl (br_t rfl ⟨hin, ?_⟩))))
            exact yw_deg hq hx ⟨hil, yw_deg hq hy (br_f (fw_nn x0 hx) (br_f (fw_nn y0 hy) (br_f le ⟨rfl, fw_rel hq hp hr⟩)))⟩
theorem i_vc_divide {k : Nat} {u : SX} {v : SY} (I : i_Rel k u v) (hk : k + 4 ≤ 2049) (v1 : Int32) (v2 : Int32) (v3 : Int32) : wpX_divide (fun r u' => wpY_divide (fun r' v' => r' = r ∧ i_Rel (k + 4) u' v') v v1 v2 v3) u v1 v2 v3 := by
  obtain ⟨q, pw, rg, rm, fo, fa, og, hq, rfl, rfl, hp, hr⟩ := I
  unfold wpX_divide wpY_divide
  dsimp only
  rcases fw_ix v1 with hb | ⟨j, hj, rfl⟩
  · exact xreg0 hb (br_t rfl (ybad1 hb (br_f (by decide) ⟨rfl, fw_rel hq hp hr⟩)))
  refine xreg1 hj (br_f (by decide) ?_)
  rcases fw_ix v2 with hb | ⟨l, hl, rfl⟩
  · exact xreg0 hb (br_t rfl (ybad0 hj (br_t rfl (ybad1 hb (br_f (by decide) ⟨rfl, fw_rel hq hp hr⟩)))))
  refine xreg1 hl (br_f (by decide) ?_)
  rcases fw_ix v3 with hb | ⟨m, hm, rfl⟩
  · exact xreg0 hb (br_t rfl (ybad0 hj (br_t rfl (ybad0 hl (br_t rfl (ybad1 hb (br_f (by decide) ⟨rfl, fw_rel hq hp hr⟩)))))))
  refine xreg1 hm (br_f (by decide) ?_)
  have hij : vp_in (nI j) 3 := vp_in_nI hj (by omega)
  have hil : vp_in (nI l) 3 := vp_in_nI hl (by omega)
  have him : vp_in (nI m) 3 := vp_in_nI hm (by omega)
  have Y : ∀ {P : Int32 → Prop}, P 0 → wpY_bad P (nI (q + 1), nI ((q + 1) ^ 9), rm, fo, rg, fa, og) (nI j) := fun h => ybad0 hj h
  by_cases a1 : nI j = nI l
  · exact br_t a1 (ybad0 hj (br_t rfl (ybad0 hl (br_t rfl (ybad0 hm (br_t rfl (br_t a1 ⟨rfl, fw_rel hq hp hr⟩)))))))
  refine br_f a1 ?_
  by_cases a2 : nI j = nI m
  · exact br_t a2 (ybad0 hj (br_t rfl (ybad0 hl (br_t rfl (ybad0 hm (br_t rfl (br_f a1 (br_t a2 ⟨rfl, fw_rel hq hp hr⟩))))))))
  refine br_f a2 ?_
  by_cases a3 : nI l = nI m
  · exact br_t a3 (ybad0 hj (br_t rfl (ybad0 hl (br_t rfl (ybad0 hm (br_t rfl (br_f a1 (br_f a2 (br_t a3 ⟨rfl, fw_rel hq hp hr⟩)))))))))
  refine br_f a3 ⟨him, ?_⟩
  by_cases a4 : rg (nI m).toNatClampNeg = 0
  · exact br_t a4 (ybad0 hj (br_t rfl (ybad0 hl (br_t rfl (ybad0 hm (br_t rfl (br_f a1 (br_f a2 (br_f a3 ⟨him, br_t a4 ⟨rfl, fw_rel hq hp hr⟩⟩)))))))))
  refine br_f a4 ⟨hil, him, ?_⟩
  obtain ⟨x, hx, e⟩ := fw_rg hr hl
  obtain ⟨y, hy, e2⟩ := fw_rg hr hm
  have y0 : 0 < y := by
    rcases Nat.eq_zero_or_pos y with z | z
    · rw [e2, z] at a4
      exact absurd rfl a4
    · exact z
  have n1 : (nI l).toNatClampNeg ≠ (nI j).toNatClampNeg := by
    rw [nI_clamp (by omega), nI_clamp (by omega)]
    intro z
    rw [z] at a1
    exact a1 rfl
  have n2 : (nI m).toNatClampNeg ≠ (nI j).toNatClampNeg := by
    rw [nI_clamp (by omega), nI_clamp (by omega)]
    intro z
    rw [z] at a2
    exact a2 rfl
  have h9 := fd_qt9 hq hx y0 hy
  have r9 := fd_rm9 hq hx y0 hy
  have X1 : ∀ {post : Int32 → Prop}, post (nI (fd_qt q x y)) → wpX_quotientOf post (nI (q + 1), pw, rg) (rg (nI l).toNatClampNeg) (rg (nI m).toNatClampNeg) := by
    intro post h
    rw [e, e2]
    exact xw_q hq hp hx y0 hy h
  have X2 : ∀ {post : Int32 → Prop} {w : Int32}, post (nI (fd_rm q x y)) → wpX_remainderOf post (nI (q + 1), pw, upd rg (nI j).toNatClampNeg w) (upd rg (nI j).toNatClampNeg w (nI l).toNatClampNeg) (upd rg (nI j).toNatClampNeg w (nI m).toNatClampNeg) := by
    intro post w h
    rw [pk_un n1, pk_un n2, e, e2]
    exact xw_r hq hp hx y0 hy h
  have Y1 : ∀ {post : Int32 → SY → Prop}, post (nI (fd_qt q x y)) (nI (q + 1), nI ((q + 1) ^ 9), nI (fd_rm q x y), fo, rg, fa, og) → wpY_quotient post (nI (q + 1), nI ((q + 1) ^ 9), rm, fo, rg, fa, og) (rg (nI l).toNatClampNeg) (rg (nI m).toNatClampNeg) := by
    intro post h
    rw [e, e2]
    exact yw_q hq hx y0 hy h
  exact X1 ⟨hij, nm_e ⟨hil, him, X2 ⟨hil, nm_e ⟨hij, ybad0 hj (br_t rfl (ybad0 hl (br_t rfl (ybad0 hm (br_t rfl (br_f a1 (br_f a2 (br_f a3 ⟨him, br_f a4 ⟨hil, him, Y1 ⟨hij, nm_e ⟨hil, nm_e ⟨hij, rfl, fw_rel hq hp (fw_Ru (fw_Ru hr h9) r9)⟩⟩⟩⟩⟩)))))))) ⟩⟩⟩⟩
theorem i_vc_divisor {k : Nat} {u : SX} {v : SY} (I : i_Rel k u v) (hk : k + 4 ≤ 2049) (v1 : Int32) (v2 : Int32) : wpX_divisor (fun r u' => wpY_divisor (fun r' v' => r' = r ∧ i_Rel (k + 4) u' v') v v1 v2) u v1 v2 := by
  obtain ⟨q, pw, rg, rm, fo, fa, og, hq, rfl, rfl, hp, hr⟩ := I
  unfold wpX_divisor wpY_divisor
  dsimp only
  rcases fw_ix v1 with hb | ⟨j, hj, rfl⟩
  · exact xreg0 hb (br_t rfl (ybad1 hb (br_f (by decide) ⟨rfl, fw_rel hq hp hr⟩)))
  · refine xreg1 hj (br_f (by decide) ?_)
    rcases fw_ix v2 with hb | ⟨l, hl, rfl⟩
    · exact xreg0 hb (br_t rfl (ybad0 hj (br_t rfl (ybad1 hb (br_f (by decide) ⟨rfl, fw_rel hq hp hr⟩)))))
    · have hin : vp_in (nI j) 3 := vp_in_nI hj (by omega)
      have hil : vp_in (nI l) 3 := vp_in_nI hl (by omega)
      obtain ⟨x, hx, e⟩ := fw_rg hr hj
      obtain ⟨y, hy, e2⟩ := fw_rg hr hl
      have g := (fd_gck hq 9 x y hx hy (fd_l9 hy)).2
      have g2 : fd_gc q 10 x y = fd_gc q 12 x y := by rw [g 10 (by omega), g 12 (by omega)]
      refine xreg1 hl (br_f (by decide) ⟨hin, hil, ?_⟩)
      rw [e, e2]
      refine xw_g hq hp hx hy ?_
      rw [g2]
      exact ⟨hin, nm_e ⟨hin, ybad0 hj (br_t rfl (ybad0 hl (br_t rfl ⟨hin, hil, yw_g hq hx hy (fun rm' => ⟨hin, nm_e ⟨hin, rfl, fw_rel hq hp (fw_Ru hr (fd_mo9 _))⟩⟩)⟩)))⟩⟩
theorem yw_de17 {q j x : Nat} {post : Int32 → SY → Prop} {en rm fo : Int32} {rg fa og : Nat → Int32} (hq : q = 1 ∨ q = 2 ∨ q = 4) (hj : j < 3) (hx : x < (q + 1) ^ 9) (e : rg (nI j).toNatClampNeg = nI x) (h : post (nI (fd_de q x 8)) (nI (q + 1), en, rm, fo, upd rg (nI j).toNatClampNeg (nI (fd_de q x 8)), fa, og)) : ∀ d i n, i + d = 8 → d < n → wY_derive_17 post (nI j) (nI (q + 1)) en rm fo rg fa og n (nI (fd_de q x i)) (nI ((q + 1) ^ i)) (nI (i + 1)) := by
  have q5 := fd_bq hq
  have hin : vp_in (nI j) 3 := vp_in_nI hj (by omega)
  intro d
  induction d with
  | zero =>
    intro i n hi hn
    obtain ⟨n, rfl⟩ : ∃ j, n = j + 1 := ⟨n - 1, by omega⟩
    have e : i = 8 := by omega
    subst e
    exact br_t (nI_le (a := 9) (b := 9) (by omega) (by omega)) ⟨hin, nm_e h⟩
  | succ d ih =>
    intro i n hi hn
    obtain ⟨n, rfl⟩ : ∃ j, n = j + 1 := ⟨n - 1, by omega⟩
    have m1 := Nat.mod_lt (x / (q + 1) ^ (i + 1)) (show 0 < q + 1 by omega)
    have bm : x / (q + 1) ^ (i + 1) % (q + 1) * (i + 1) ≤ 5 * 8 := Nat.mul_le_mul (by omega) (by omega)
    refine br_f (nI_ge (b := 9) (by omega) (by omega)) ⟨hin, ?_⟩
    rw [e]
    refine yw_dig hq hx (by omega) ⟨fw_m hq, nm_r (e' := nI (fd_de q x (i + 1))) ?_ (nm_r (e' := nI ((q + 1) ^ (i + 1))) ?_ (nm_r (nI_1 (i + 1)) (ih (i + 1) n (by omega) (by omega))))⟩
    · rw [pk_mul, pk_rem (by omega) (by omega) (by omega), pk_mul, nI_add]
      rfl
    · rw [pk_mul, ← fd_ps]
theorem i_vc_derive {k : Nat} {u : SX} {v : SY} (I : i_Rel k u v) (hk : k + 4 ≤ 2049) (v1 : Int32) : wpX_derive (fun r u' => wpY_derive (fun r' v' => r' = r ∧ i_Rel (k + 4) u' v') v v1) u v1 := by
  obtain ⟨q, pw, rg, rm, fo, fa, og, hq, rfl, rfl, hp, hr⟩ := I
  unfold wpX_derive wpY_derive
  dsimp only
  rcases fw_ix v1 with hb | ⟨j, hj, rfl⟩
  · exact xreg0 hb (br_t rfl (ybad1 hb (br_f (by decide) ⟨rfl, fw_rel hq hp hr⟩)))
  · have hin : vp_in (nI j) 3 := vp_in_nI hj (by omega)
    obtain ⟨x, hx, e⟩ := fw_rg hr hj
    have d9 : fd_de q x 8 < (q + 1) ^ 9 := Nat.lt_of_lt_of_le (fd_del x 8) (fd_pm q (by omega))
    have X1 : ∀ {post : Int32 → Prop}, post (nI (fd_de q x 8)) → wpX_derivativeOf post (nI (q + 1), pw, rg) (rg (nI j).toNatClampNeg) := by
      intro post h
      rw [e]
      exact xw_d hq hp hx h
    refine xreg1 hj (br_f (by decide) ⟨hin, X1 ⟨hin, nm_e ⟨hin, ybad0 hj (br_t rfl ⟨9, ?_⟩)⟩⟩⟩)
    exact yw_de17 hq hj hx e ⟨pk_us.symm, fw_rel hq hp (fw_Ru hr d9)⟩ 8 0 9 (by omega) (by omega)
theorem fw_pt {q : Nat} (hq : q = 1 ∨ q = 2 ∨ q = 4) (x : Int32) : ∃ t, t < q + 1 ∧ fmv x (nI (q + 1)) = nI t := by
  have e : (nI (q + 1)).toInt = ((q + 1 : Nat) : Int) := nI_toInt (by omega)
  obtain ⟨a, b⟩ := fmv_bounds (a := x) (m := nI (q + 1)) (by rw [e]; omega)
  have nn : ¬ fmv x (nI (q + 1)) < 0 := by
    rw [Int32.lt_iff_toInt_lt, show (0 : Int32).toInt = 0 from by decide]
    omega
  obtain ⟨t, ht, et⟩ := nI_of nn
  refine ⟨t, ?_, et⟩
  rw [et, e, nI_toInt ht] at b
  omega
theorem i_vc_valueAt {k : Nat} {u : SX} {v : SY} (I : i_Rel k u v) (hk : k + 4 ≤ 2049) (v1 : Int32) (v2 : Int32) : wpX_valueAt (fun r => wpY_valueAt (fun r' => r' = r ∧ i_Rel (k + 4) u v) v v1 v2) u v1 v2 := by
  obtain ⟨q, pw, rg, rm, fo, fa, og, hq, rfl, rfl, hp, hr⟩ := I
  unfold wpX_valueAt wpY_valueAt
  dsimp only
  rcases fw_ix v1 with hb | ⟨j, hj, rfl⟩
  · exact xreg0 hb (br_t rfl (ybad1 hb (br_f (by decide) ⟨rfl, fw_rel hq hp hr⟩)))
  · have hin : vp_in (nI j) 3 := vp_in_nI hj (by omega)
    obtain ⟨x, hx, e⟩ := fw_rg hr hj
    obtain ⟨t, ht, et⟩ := fw_pt hq v2
    refine xreg1 hj (br_f (by decide) ⟨fw_m hq, nm_e ?_⟩)
    by_cases z : 0 ≤ v2 - v2 / nI (q + 1) * nI (q + 1)
    · have e3 : v2 - v2 / nI (q + 1) * nI (q + 1) = nI t := by
        rw [← et]
        exact (if_pos z).symm
      refine br_t z ⟨hin, ?_⟩
      rw [e, e3]
      refine xw_v hq hp hx ht (ybad0 hj (br_t rfl ⟨fw_m hq, nm_e ⟨hin, br_t ?_ ?_⟩⟩))
      · exact nI_pos' (by omega)
      · unfold wY_valueAt_38
        exact yw_v hq hx ht ⟨rfl, fw_rel hq hp hr⟩
    · have e3 : v2 - v2 / nI (q + 1) * nI (q + 1) + nI (q + 1) = nI t := by
        rw [← et]
        exact (if_neg z).symm
      refine br_f z (nm_e ⟨hin, ?_⟩)
      rw [e, e3]
      refine xw_v hq hp hx ht (ybad0 hj (br_t rfl ⟨fw_m hq, nm_e ⟨hin, br_f z ?_⟩⟩))
      unfold wY_valueAt_38
      rw [e3]
      exact yw_v hq hx ht ⟨rfl, fw_rel hq hp hr⟩
def fd_rt (q x : Nat) : Nat → Nat
  | 0 => 0
  | i + 1 => fd_rt q x i + if fd_va q x i 9 0 = 0 then 1 else 0
theorem fd_val {q x t : Nat} : ∀ k v, v < q + 1 → fd_va q x t k v < q + 1 := by
  intro k
  induction k with
  | zero => intro v hv; exact hv
  | succ k ih => intro v _; exact ih _ (Nat.mod_lt _ (by omega))
theorem xw_ro {q j x : Nat} {post : Int32 → Prop} {pw rg : Nat → Int32} (hq : q = 1 ∨ q = 2 ∨ q = 4) (hp : fw_P q pw) (hj : j < 3) (hx : x < (q + 1) ^ 9) (e : rg (nI j).toNatClampNeg = nI x) (h : post (nI (fd_rt q x (q + 1)))) : ∀ d i n, i + d = q + 1 → d < n → wX_roots_14 post (nI j) (nI (q + 1)) pw rg n (nI (fd_rt q x i)) (nI i) := by
  have q5 := fd_bq hq
  have hin : vp_in (nI j) 3 := vp_in_nI hj (by omega)
  intro d
  induction d with
  | zero =>
    intro i n hi hn
    obtain ⟨n, rfl⟩ : ∃ j, n = j + 1 := ⟨n - 1, by omega⟩
    have e : i = q + 1 := by omega
    subst e
    exact br_t (nI_le (Nat.le_refl _) (by omega)) h
  | succ d ih =>
    intro i n hi hn
    obtain ⟨n, rfl⟩ : ∃ j, n = j + 1 := ⟨n - 1, by omega⟩
    have K := ih (i + 1) n (by omega) (by omega)
    simp only [fd_rt] at K
    have vl := fd_val (q := q) (x := x) (t := i) 9 0 (by omega)
    refine br_f (nI_ge (by omega) (by omega)) ⟨hin, ?_⟩
    rw [e]
    refine xw_v hq hp hx (by omega) (pk_eq (fd_va q x i 9 0) 0 (fun z => ?_) (fun z => ?_) rfl rfl (by omega) (by omega))
    · rw [if_pos z] at K
      exact nm_r (nI_1 _) (nm_r (nI_1 i) K)
    · rw [if_neg z, Nat.add_zero] at K
      exact nm_r (nI_1 i) K
theorem yw_ro {q j x : Nat} {post : Int32 → Prop} {en rm fo : Int32} {rg fa og : Nat → Int32} (hq : q = 1 ∨ q = 2 ∨ q = 4) (hj : j < 3) (hx : x < (q + 1) ^ 9) (e : rg (nI j).toNatClampNeg = nI x) (h : post (nI (fd_rt q x (q + 1)))) : ∀ d i n, i + d = q + 1 → d < n → wY_roots_14 post (nI j) (nI (q + 1)) en rm fo rg fa og n (nI (fd_rt q x i)) (nI i) := by
  have q5 := fd_bq hq
  have hin : vp_in (nI j) 3 := vp_in_nI hj (by omega)
  intro d
  induction d with
  | zero =>
    intro i n hi hn
    obtain ⟨n, rfl⟩ : ∃ j, n = j + 1 := ⟨n - 1, by omega⟩
    have e : i = q + 1 := by omega
    subst e
    exact br_t (nI_le (Nat.le_refl _) (by omega)) h
  | succ d ih =>
    intro i n hi hn
    obtain ⟨n, rfl⟩ : ∃ j, n = j + 1 := ⟨n - 1, by omega⟩
    have K := ih (i + 1) n (by omega) (by omega)
    simp only [fd_rt] at K
    have vl := fd_val (q := q) (x := x) (t := i) 9 0 (by omega)
    refine br_f (nI_ge (by omega) (by omega)) ⟨hin, ?_⟩
    rw [e]
    refine yw_v hq hx (by omega) (pk_eq (fd_va q x i 9 0) 0 (fun z => ?_) (fun z => ?_) rfl rfl (by omega) (by omega))
    · rw [if_pos z] at K
      exact nm_r (nI_1 _) (nm_r (nI_1 i) K)
    · rw [if_neg z, Nat.add_zero] at K
      exact nm_r (nI_1 i) K
theorem i_vc_roots {k : Nat} {u : SX} {v : SY} (I : i_Rel k u v) (hk : k + 4 ≤ 2049) (v1 : Int32) : wpX_roots (fun r => wpY_roots (fun r' => r' = r ∧ i_Rel (k + 4) u v) v v1) u v1 := by
  obtain ⟨q, pw, rg, rm, fo, fa, og, hq, rfl, rfl, hp, hr⟩ := I
  unfold wpX_roots wpY_roots
  dsimp only
  rcases fw_ix v1 with hb | ⟨j, hj, rfl⟩
  · exact xreg0 hb (br_t rfl (ybad1 hb (br_f (by decide) ⟨rfl, fw_rel hq hp hr⟩)))
  · obtain ⟨x, hx, e⟩ := fw_rg hr hj
    have q5 := fd_bq hq
    refine xreg1 hj (br_f (by decide) ⟨10, ?_⟩)
    refine xw_ro hq hp hj hx e ?_ (q + 1) 0 10 (by omega) (by omega)
    refine ybad0 hj (br_t rfl ⟨10, ?_⟩)
    exact yw_ro hq hj hx e ⟨rfl, fw_rel hq hp hr⟩ (q + 1) 0 10 (by omega) (by omega)
