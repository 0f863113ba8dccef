/-! irreducible, factors, factor, multiplicity, greatest, squareFree, radical -/
theorem i_vc_irreducible {k : Nat} {u : SX} {v : SY} (I : i_Rel k u v) (hk : k + 4 ≤ 2049) (v1 : Int32) : wpX_irreducible (fun r => wpY_irreducible (fun r' v' => r' = r ∧ i_Rel (k + 4) u v') v v1) u v1 := by
  obtain ⟨q, pw, rg, rm, fo, fa, og, hq, rfl, rfl, hp, hr⟩ := I
  unfold wpX_irreducible wpY_irreducible
  dsimp only
  rcases fw_ix v1 with hb | ⟨j, hj, rfl⟩
  · exact xreg0 hb (br_t rfl (ybad1 hb (br_f (by decide) ⟨rfl, fw_rel hq hp hr⟩)))
  · have hin : vp_in (nI j) 3 := vp_in_nI hj (by omega)
    obtain ⟨x, hx, e⟩ := fw_rg hr hj
    refine xreg1 hj (br_f (by decide) ⟨hin, ?_⟩)
    rw [e]
    refine xw_irr hq hp hx (fun a b => br_f (by decide) (ybad0 hj (br_t rfl ⟨hin, ?_⟩))) (fun a => br_t rfl (ybad0 hj (br_t rfl ⟨hin, ?_⟩)))
    · exact yw_irr hq hx (fun _ _ _ _ _ _ => br_f (by decide) ⟨rfl, fw_rel hq hp hr⟩) (fun c => absurd ⟨a, b⟩ c)
    · exact yw_irr hq hx (fun b c => absurd ⟨b, c⟩ a) (fun _ _ _ _ _ => br_t rfl ⟨rfl, fw_rel hq hp hr⟩)
/-- what Y holds when it is ready -/
def fw_T (q x : Nat) (fa og : Nat → Int32) : Prop := ∀ t, t < fd_ct q 8 x → fa t = nI (fd_lf q (fd_it q t x)) ∧ og t = nI (fd_mu q (fd_lf q (fd_it q t x)) 8 (fd_it q t x))
section
variable {q j : Nat} {en rm fo : Int32} {rg fa og : Nat → Int32} {post : Int32 → SY → Prop}
theorem yready1 {a : Int32} (ha : a < 0 ∨ nI 3 ≤ a) (h : post (-1) (nI (q + 1), en, rm, fo, rg, fa, og)) : wpY_ready post (nI (q + 1), en, rm, fo, rg, fa, og) a := by
  unfold wpY_ready
  exact ybad1 ha (br_f (by decide) h)
theorem yready2 (hj : j < 3) (e : rg (nI j).toNatClampNeg = 0) (h : post (-2) (nI (q + 1), en, rm, fo, rg, fa, og)) : wpY_ready post (nI (q + 1), en, rm, fo, rg, fa, og) (nI j) := by
  unfold wpY_ready
  exact ybad0 hj (br_t rfl ⟨vp_in_nI hj (by omega), br_t e h⟩)
theorem yready0 {x : Nat} (hq : q = 1 ∨ q = 2 ∨ q = 4) (hj : j < 3) (x0 : 0 < x) (hx : x < (q + 1) ^ 9) (e : rg (nI j).toNatClampNeg = nI x) (h : ∀ rm' fa' og', fw_T q x fa' og' → post 0 (nI (q + 1), en, rm', nI (fd_ct q 8 x), rg, fa', og')) : wpY_ready post (nI (q + 1), en, rm, fo, rg, fa, og) (nI j) := by
  have hin : vp_in (nI j) 3 := vp_in_nI hj (by omega)
  unfold wpY_ready
  refine ybad0 hj (br_t rfl ⟨hin, br_f (by rw [e]; exact nI_ne0 x0 (fw_b hq hx)) ⟨hin, ?_⟩⟩)
  rw [e]
  exact yw_split hq x0 hx (fun rm' fa' og' g => h rm' fa' og' g)
theorem fw_ct8 {x : Nat} (hq : q = 1 ∨ q = 2 ∨ q = 4) (x0 : 0 < x) (hx : x < (q + 1) ^ 9) : fd_ct q 8 x ≤ 8 := by
  have := (fd_ctS hq 8 x x0 hx (fd_dg8 hx)).1
  have := fd_dg8 hx
  omega
theorem fw_itF {x t : Nat} (hq : q = 1 ∨ q = 2 ∨ q = 4) (x0 : 0 < x) (hx : x < (q + 1) ^ 9) (ht : t < fd_ct q 8 x) : fd_F q (fd_it q t x) (fd_lf q (fd_it q t x)) ∧ 1 ≤ fd_dg q (fd_it q t x) := by
  have d1 := ((fd_ctS hq 8 x x0 hx (fd_dg8 hx)).2 t).mpr ht
  exact ⟨fd_lfF hq (fd_itb hq t x x0 hx).2 d1, d1⟩
theorem fw_it0 {x t : Nat} (hq : q = 1 ∨ q = 2 ∨ q = 4) (x0 : 0 < x) (hx : x < (q + 1) ^ 9) (ht : fd_ct q 8 x ≤ t) : fd_dg q (fd_it q t x) = 0 := by
  have d1 := (fd_ctS hq 8 x x0 hx (fd_dg8 hx)).2 t
  omega
end
/-- the three ways that these methods begin -/
theorem i_vc_factors {k : Nat} {u : SX} {v : SY} (I : i_Rel k u v) (hk : k + 4 ≤ 2049) (v1 : Int32) : wpX_factors (fun r => wpY_factors (fun r' v' => r' = r ∧ i_Rel (k + 4) u v') v v1) u v1 := by
  obtain ⟨q, pw, rg, rm, fo, fa, og, hq, rfl, rfl, hp, hr⟩ := I
  unfold wpX_factors wpY_factors
  dsimp only
  rcases fw_ix v1 with hb | ⟨j, hj, rfl⟩
  · exact xreg0 hb (br_t rfl (yready1 hb (br_f (by decide) ⟨rfl, fw_rel hq hp hr⟩)))
  · have hin : vp_in (nI j) 3 := vp_in_nI hj (by omega)
    obtain ⟨x, hx, e⟩ := fw_rg hr hj
    refine xreg1 hj (br_f (by decide) ⟨hin, ?_⟩)
    by_cases z : rg (nI j).toNatClampNeg = 0
    · exact br_t z (yready2 hj z (br_f (by decide) ⟨rfl, fw_rel hq hp hr⟩))
    · have x0 : 0 < x := by
        rcases Nat.eq_zero_or_pos x with w | w
        · rw [e, w] at z
          exact absurd rfl z
        · exact w
      refine br_f z ⟨hin, ?_⟩
      rw [e]
      refine xw_n hq hp x0 hx (yready0 hq hj x0 hx e (fun rm' fa' og' T => br_t (by decide) ⟨rfl, fw_rel hq hp hr⟩))
theorem i_vc_factor {k : Nat} {u : SX} {v : SY} (I : i_Rel k u v) (hk : k + 4 ≤ 2049) (v1 : Int32) (v2 : Int32) : wpX_factor (fun r => wpY_factor (fun r' v' => r' = r ∧ i_Rel (k + 4) u v') v v1 v2) u v1 v2 := by
  obtain ⟨q, pw, rg, rm, fo, fa, og, hq, rfl, rfl, hp, hr⟩ := I
  unfold wpX_factor wpY_factor
  dsimp only
  rcases fw_ix v1 with hb | ⟨j, hj, rfl⟩
  · exact xreg0 hb (br_t rfl (yready1 hb (br_f (by decide) ⟨rfl, fw_rel hq hp hr⟩)))
  · have hin : vp_in (nI j) 3 := vp_in_nI hj (by omega)
    obtain ⟨x, hx, e⟩ := fw_rg hr hj
    refine xreg1 hj (br_f (by decide) ⟨hin, ?_⟩)
    by_cases z : rg (nI j).toNatClampNeg = 0
    · exact br_t z (yready2 hj z (br_f (by decide) ⟨rfl, fw_rel hq hp hr⟩))
    · have x0 : 0 < x := by
        rcases Nat.eq_zero_or_pos x with w | w
        · rw [e, w] at z
          exact absurd rfl z
        · exact w
      have c8 := fw_ct8 hq x0 hx
      refine br_f z ⟨hin, ?_⟩
      rw [e]
      by_cases n0 : v2 < 0
      · exact xw_f0 (Or.inl n0) (br_t rfl (yready0 hq hj x0 hx e (fun rm' fa' og' T => br_t (by decide) (br_t n0 ⟨rfl, fw_rel hq hp hr⟩))))
      · obtain ⟨i, hi, rfl⟩ := nI_of n0
        rcases Nat.lt_or_ge i 8 with i8 | i8
        · refine xw_f hq hp i8 x0 hx ?_
          rcases Nat.lt_or_ge i (fd_ct q 8 x) with w | w
          · obtain ⟨F, d1⟩ := fw_itF hq x0 hx w
            obtain ⟨m0, m9, _⟩ := fd_M0 hq F.1
            refine br_f (nI_ne0 m0 (fw_b hq m9)) (yready0 hq hj x0 hx e (fun rm' fa' og' T => br_t (by decide) (br_f n0 (br_t (nI_lt w (by omega)) ⟨vp_in_nI i8 (by omega), ?_, fw_rel hq hp hr⟩))))
            rw [nI_clamp hi]
            exact (T i w).1
          · rw [fd_lf0 (fw_it0 hq x0 hx w)]
            exact br_t rfl (yready0 hq hj x0 hx e (fun rm' fa' og' T => br_t (by decide) (br_f n0 (br_f (nI_nlt w hi) ⟨rfl, fw_rel hq hp hr⟩))))
        · exact xw_f0 (Or.inr (nI_le (a := 8) i8 hi)) (br_t rfl (yready0 hq hj x0 hx e (fun rm' fa' og' T => br_t (by decide) (br_f n0 (br_f (nI_nlt (by omega) hi) ⟨rfl, fw_rel hq hp hr⟩)))))
theorem i_vc_multiplicity {k : Nat} {u : SX} {v : SY} (I : i_Rel k u v) (hk : k + 4 ≤ 2049) (v1 : Int32) (v2 : Int32) : wpX_multiplicity (fun r => wpY_multiplicity (fun r' v' => r' = r ∧ i_Rel (k + 4) u v') v v1 v2) u v1 v2 := by
  obtain ⟨q, pw, rg, rm, fo, fa, og, hq, rfl, rfl, hp, hr⟩ := I
  unfold wpX_multiplicity wpY_multiplicity
  dsimp only
  rcases fw_ix v1 with hb | ⟨j, hj, rfl⟩
  · exact xreg0 hb (br_t rfl (yready1 hb (br_f (by decide) ⟨rfl, fw_rel hq hp hr⟩)))
  · have hin : vp_in (nI j) 3 := vp_in_nI hj (by omega)
    obtain ⟨x, hx, e⟩ := fw_rg hr hj
    refine xreg1 hj (br_f (by decide) ⟨hin, ?_⟩)
    by_cases z : rg (nI j).toNatClampNeg = 0
    · exact br_t z (yready2 hj z (br_f (by decide) ⟨rfl, fw_rel hq hp hr⟩))
    · have x0 : 0 < x := by
        rcases Nat.eq_zero_or_pos x with w | w
        · rw [e, w] at z
          exact absurd rfl z
        · exact w
      have c8 := fw_ct8 hq x0 hx
      refine br_f z ⟨hin, ?_⟩
      rw [e]
      by_cases n0 : v2 < 0
      · exact xw_f0 (Or.inl n0) (br_t rfl (yready0 hq hj x0 hx e (fun rm' fa' og' T => br_t (by decide) (br_t n0 ⟨rfl, fw_rel hq hp hr⟩))))
      · obtain ⟨i, hi, rfl⟩ := nI_of n0
        rcases Nat.lt_or_ge i 8 with i8 | i8
        · refine xw_f hq hp i8 x0 hx ?_
          rcases Nat.lt_or_ge i (fd_ct q 8 x) with w | w
          · obtain ⟨F, d1⟩ := fw_itF hq x0 hx w
            obtain ⟨m0, m9, _⟩ := fd_M0 hq F.1
            refine br_f (nI_ne0 m0 (fw_b hq m9)) ⟨hin, xw_mu hq hp F.1 hx (yready0 hq hj x0 hx e (fun rm' fa' og' T => br_t (by decide) (br_f n0 (br_t (nI_lt w (by omega)) ⟨vp_in_nI i8 (by omega), ?_, fw_rel hq hp hr⟩))))⟩
            show og' (nI i).toNatClampNeg = nI (fd_mu q (fd_lf q (fd_it q i x)) 8 x)
            rw [nI_clamp hi, (T i w).2, fd_mui hq (fd_FI hq (fd_itb hq i x x0 hx).2 F) 8 i x x0 hx F.2.1]
          · rw [fd_lf0 (fw_it0 hq x0 hx w)]
            exact br_t rfl (yready0 hq hj x0 hx e (fun rm' fa' og' T => br_t (by decide) (br_f n0 (br_f (nI_nlt w hi) ⟨rfl, fw_rel hq hp hr⟩))))
        · exact xw_f0 (Or.inr (nI_le (a := 8) i8 hi)) (br_t rfl (yready0 hq hj x0 hx e (fun rm' fa' og' T => br_t (by decide) (br_f n0 (br_f (nI_nlt (by omega) hi) ⟨rfl, fw_rel hq hp hr⟩)))))
/-- the greatest degree of the first i factors -/
noncomputable def fd_gr (q x : Nat) : Nat → Nat
  | 0 => 0
  | i + 1 => fd_dg q (fd_lf q (fd_it q i x))
theorem fd_grm {q x : Nat} (hq : q = 1 ∨ q = 2 ∨ q = 4) (x0 : 0 < x) (hx : x < (q + 1) ^ 9) {i : Nat} (hi : i < fd_ct q 8 x) : fd_gr q x i ≤ fd_gr q x (i + 1) ∧ fd_gr q x i ≤ 8 := by
  cases i with
  | zero => exact ⟨Nat.zero_le _, Nat.zero_le _⟩
  | succ i =>
    obtain ⟨F, d1⟩ := fw_itF hq x0 hx (show i < fd_ct q 8 x by omega)
    obtain ⟨G, d2⟩ := fw_itF hq x0 hx hi
    obtain ⟨i0, i9⟩ := fd_itb hq i x x0 hx
    rw [fd_its] at d2 G
    have m := fd_lfm hq i0 i9 d1 d2
    have F9 := (fd_M0 hq F.1).2.1
    have G9 := (fd_M0 hq G.1).2.1
    constructor
    · show fd_dg q (fd_lf q (fd_it q i x)) ≤ fd_dg q (fd_lf q (fd_it q (i + 1) x))
      rw [fd_its]
      exact fd_dmono F9 G9 m
    · exact fd_dg8 F9
theorem yw_gr {q x : Nat} {post : Int32 → SY → Prop} {en rm : Int32} {rg fa og : Nat → Int32} (hq : q = 1 ∨ q = 2 ∨ q = 4) (x0 : 0 < x) (hx : x < (q + 1) ^ 9) (T : fw_T q x fa og) (h : post (nI (fd_gr q x (fd_ct q 8 x))) (nI (q + 1), en, rm, nI (fd_ct q 8 x), rg, fa, og)) : ∀ d i n, i + d = fd_ct q 8 x → d < n → wY_greatest_17 post (nI (q + 1)) en rm (nI (fd_ct q 8 x)) rg fa og n (nI (fd_gr q x i)) (nI i) := by
  have c8 := fw_ct8 hq x0 hx
  intro d
  induction d with
  | zero =>
    intro i n hi hn
    obtain ⟨n, rfl⟩ : ∃ j, n = j + 1 := ⟨n - 1, by omega⟩
    have e : i = fd_ct q 8 x := by omega
    subst e
    exact br_t (nI_le (Nat.le_refl _) (by omega)) h
  | succ d ih =>
    intro i n hi hn
    obtain ⟨n, rfl⟩ : ∃ j, n = j + 1 := ⟨n - 1, by omega⟩
    have ic : i < fd_ct q 8 x := by omega
    obtain ⟨F, d1⟩ := fw_itF hq x0 hx ic
    obtain ⟨m0, m9, _⟩ := fd_M0 hq F.1
    have m8 := fd_dg8 m9
    obtain ⟨g1, g2⟩ := fd_grm hq x0 hx ic
    have K := ih (i + 1) n (by omega) (by omega)
    refine br_f (nI_ge (by omega) (by omega)) ⟨vp_in_nI (by omega) (by omega), ?_⟩
    rw [nI_clamp (by omega), (T i ic).1]
    refine yw_degp hq m0 m9 (pk_le (fd_dg q (fd_lf q (fd_it q i x))) (fd_gr q x i) (fun z => nm_r (nI_1 i) ?_) (fun z => nm_r (nI_1 i) K) rfl rfl (by omega) (by omega))
    have e : fd_gr q x i = fd_gr q x (i + 1) := Nat.le_antisymm g1 z
    rw [e]
    exact K
theorem i_vc_greatest {k : Nat} {u : SX} {v : SY} (I : i_Rel k u v) (hk : k + 4 ≤ 2049) (v1 : Int32) : wpX_greatest (fun r => wpY_greatest (fun r' v' => r' = r ∧ i_Rel (k + 4) u v') v v1) u v1 := by
  obtain ⟨q, pw, rg, rm, fo, fa, og, hq, rfl, rfl, hp, hr⟩ := I
  unfold wpX_greatest wpY_greatest
  dsimp only
  rcases fw_ix v1 with hb | ⟨j, hj, rfl⟩
  · exact xreg0 hb (br_t rfl (yready1 hb (br_f (by decide) ⟨rfl, fw_rel hq hp hr⟩)))
  · have hin : vp_in (nI j) 3 := vp_in_nI hj (by omega)
    obtain ⟨x, hx, e⟩ := fw_rg hr hj
    refine xreg1 hj (br_f (by decide) ⟨hin, ?_⟩)
    by_cases z : rg (nI j).toNatClampNeg = 0
    · exact br_t z (yready2 hj z (br_f (by decide) ⟨rfl, fw_rel hq hp hr⟩))
    · have x0 : 0 < x := by
        rcases Nat.eq_zero_or_pos x with w | w
        · rw [e, w] at z
          exact absurd rfl z
        · exact w
      have c8 := fw_ct8 hq x0 hx
      refine br_f z ⟨hin, ?_⟩
      rw [e]
      have Y : ∀ r : Int32, r = nI (fd_gr q x (fd_ct q 8 x)) → wpY_ready (fun r_1 u => match u with
          | (f_p_2, f_end_3, f_remainder_4, f_found_5, a_register_6, a_factor_7, a_often_8) => (((0 ≤ r_1 → (∃ n17 : Nat, wY_greatest_17 (fun r' v' => r' = r ∧ i_Rel (k + 4) (nI (q + 1), pw, rg) v') f_p_2 f_end_3 f_remainder_4 f_found_5 a_register_6 a_factor_7 a_often_8 n17 0 0)) ∧ (¬ 0 ≤ r_1 → (r_1 = r ∧ i_Rel (k + 4) (nI (q + 1), pw, rg) (f_p_2, f_end_3, f_remainder_4, f_found_5, a_register_6, a_factor_7, a_often_8)))))) (nI (q + 1), nI ((q + 1) ^ 9), rm, fo, rg, fa, og) (nI j) := by
        intro r er
        refine yready0 hq hj x0 hx e (fun rm' fa' og' T => br_t (by decide) ⟨10, ?_⟩)
        exact yw_gr hq x0 hx T ⟨er.symm, fw_rel hq hp hr⟩ (fd_ct q 8 x) 0 10 (by omega) (by omega)
      refine xw_n hq hp x0 hx (pk_eq (fd_ct q 8 x) 0 (fun w => ?_) (fun w => ⟨hin, ?_⟩) rfl rfl (by omega) (by omega))
      · exact Y 0 (by rw [w]; rfl)
      · have e1 : nI (fd_ct q 8 x) - 1 = nI (fd_ct q 8 x - 1) := pk_sub (b := 1) (by omega)
        rw [e1]
        obtain ⟨F, d1⟩ := fw_itF hq x0 hx (show fd_ct q 8 x - 1 < fd_ct q 8 x by omega)
        obtain ⟨m0, m9, _⟩ := fd_M0 hq F.1
        refine xw_f hq hp (by omega) x0 hx (xw_degp hq hp m0 m9 (Y _ ?_))
        have e2 : fd_ct q 8 x = (fd_ct q 8 x - 1) + 1 := by omega
        have e3 : fd_gr q x (fd_ct q 8 x) = fd_gr q x ((fd_ct q 8 x - 1) + 1) := congrArg _ e2
        rw [e3]
        rfl
theorem yw_sf {q x : Nat} {post : Int32 → SY → Prop} {en rm : Int32} {rg fa og : Nat → Int32} (hq : q = 1 ∨ q = 2 ∨ q = 4) (x0 : 0 < x) (hx : x < (q + 1) ^ 9) (T : fw_T q x fa og) (h1 : (∀ i, i < fd_ct q 8 x → fd_mu q (fd_lf q (fd_it q i x)) 8 (fd_it q i x) = 1) → post 1 (nI (q + 1), en, rm, nI (fd_ct q 8 x), rg, fa, og)) (h0 : ¬ (∀ i, i < fd_ct q 8 x → fd_mu q (fd_lf q (fd_it q i x)) 8 (fd_it q i x) = 1) → post 0 (nI (q + 1), en, rm, nI (fd_ct q 8 x), rg, fa, og)) : ∀ d i n, i + d = fd_ct q 8 x → d < n → (∀ t, t < i → fd_mu q (fd_lf q (fd_it q t x)) 8 (fd_it q t x) = 1) → wY_squareFree_14 post (nI (q + 1)) en rm (nI (fd_ct q 8 x)) rg fa og n (nI i) := by
  have c8 := fw_ct8 hq x0 hx
  intro d
  induction d with
  | zero =>
    intro i n hi hn ha
    obtain ⟨n, rfl⟩ : ∃ j, n = j + 1 := ⟨n - 1, by omega⟩
    have e : i = fd_ct q 8 x := by omega
    subst e
    exact br_t (nI_le (Nat.le_refl _) (by omega)) (h1 ha)
  | succ d ih =>
    intro i n hi hn ha
    obtain ⟨n, rfl⟩ : ∃ j, n = j + 1 := ⟨n - 1, by omega⟩
    have ic : i < fd_ct q 8 x := by omega
    obtain ⟨F, d1⟩ := fw_itF hq x0 hx ic
    obtain ⟨i0, i9⟩ := fd_itb hq i x x0 hx
    have s := fd_nxS hq i0 i9 d1
    have m1 := (fd_M0 hq F.1).2.2.1
    have m8 : fd_mu q (fd_lf q (fd_it q i x)) 8 (fd_it q i x) ≤ 8 := by
      have a := s.2.2.2.1
      have b := fd_dg8 i9
      have : fd_mu q (fd_lf q (fd_it q i x)) 8 (fd_it q i x) ≤ fd_mu q (fd_lf q (fd_it q i x)) 8 (fd_it q i x) * fd_dg q (fd_lf q (fd_it q i x)) := Nat.le_mul_of_pos_right _ m1
      omega
    refine br_f (nI_ge (by omega) (by omega)) ⟨vp_in_nI (by omega) (by omega), ?_⟩
    rw [nI_clamp (by omega), (T i ic).2]
    refine pk_le (fd_mu q (fd_lf q (fd_it q i x)) 8 (fd_it q i x)) 1 (fun z => nm_r (nI_1 i) (ih (i + 1) n (by omega) (by omega) (fun t ht => ?_))) (fun z => h0 (fun H => ?_)) rfl rfl (by omega) (by omega)
    · rcases Nat.lt_or_ge t i with w | w
      · exact ha t w
      · have : t = i := by omega
        subst this
        have := s.2.2.2.2.1
        omega
    · have := H i ic
      omega
theorem i_vc_squareFree {k : Nat} {u : SX} {v : SY} (I : i_Rel k u v) (hk : k + 4 ≤ 2049) (v1 : Int32) : wpX_squareFree (fun r => wpY_squareFree (fun r' v' => r' = r ∧ i_Rel (k + 4) u v') v v1) u v1 := by
  obtain ⟨q, pw, rg, rm, fo, fa, og, hq, rfl, rfl, hp, hr⟩ := I
  unfold wpX_squareFree wpY_squareFree
  dsimp only
  rcases fw_ix v1 with hb | ⟨j, hj, rfl⟩
  · exact xreg0 hb (br_t rfl (yready1 hb (br_f (by decide) ⟨rfl, fw_rel hq hp hr⟩)))
  · have hin : vp_in (nI j) 3 := vp_in_nI hj (by omega)
    obtain ⟨x, hx, e⟩ := fw_rg hr hj
    refine xreg1 hj (br_f (by decide) ⟨hin, ?_⟩)
    by_cases z : rg (nI j).toNatClampNeg = 0
    · exact br_t z (yready2 hj z (br_f (by decide) ⟨rfl, fw_rel hq hp hr⟩))
    · have x0 : 0 < x := by
        rcases Nat.eq_zero_or_pos x with w | w
        · rw [e, w] at z
          exact absurd rfl z
        · exact w
      have c8 := fw_ct8 hq x0 hx
      have x8 := fd_dg8 hx
      obtain ⟨a1, a2⟩ := fd_1 hq
      obtain ⟨r0, r9, r1, r2⟩ := fd_rdS hq 8 1 x (by omega) a1 x0 hx (by omega) x8
      rw [a2, Nat.zero_add] at r1 r2
      refine br_f z ⟨hin, ?_⟩
      rw [e]
      refine xw_rd hq hp x0 hx (xw_degp hq hp r0 r9 ⟨hin, xw_degp hq hp x0 hx (pk_eq (fd_dg q (fd_rd q 8 1 x)) (fd_dg q x) (fun w => ?_) (fun w => ?_) rfl rfl (by omega) (by omega))⟩)
      · refine yready0 hq hj x0 hx e (fun rm' fa' og' T => br_t (by decide) ⟨10, ?_⟩)
        exact yw_sf hq x0 hx T (fun _ => ⟨rfl, fw_rel hq hp hr⟩) (fun c => absurd (r2.mp w) c) (fd_ct q 8 x) 0 10 (by omega) (by omega) (fun t ht => absurd ht (by omega))
      · refine yready0 hq hj x0 hx e (fun rm' fa' og' T => br_t (by decide) ⟨10, ?_⟩)
        exact yw_sf hq x0 hx T (fun c => absurd (r2.mpr c) w) (fun _ => ⟨rfl, fw_rel hq hp hr⟩) (fd_ct q 8 x) 0 10 (by omega) (by omega) (fun t ht => absurd ht (by omega))
theorem yw_rd {q j x : Nat} {post : Int32 → SY → Prop} {en rm : Int32} {rg fa og : Nat → Int32} (hq : q = 1 ∨ q = 2 ∨ q = 4) (hj : j < 3) (x0 : 0 < x) (hx : x < (q + 1) ^ 9) (T : fw_T q x fa og) : ∀ d i n a, i + d = fd_ct q 8 x → d < n → 0 < a → a < (q + 1) ^ 9 → fd_dg q a + fd_dg q (fd_it q i x) ≤ 8 → post (nI (fd_rd q (8 - i) a (fd_it q i x))) (nI (q + 1), en, rm, nI (fd_ct q 8 x), upd rg (nI j).toNatClampNeg (nI (fd_rd q (8 - i) a (fd_it q i x))), fa, og) → wY_radical_17 post (nI j) (nI (q + 1)) en rm (nI (fd_ct q 8 x)) rg fa og n (nI a) (nI i) := by
  have c8 := fw_ct8 hq x0 hx
  have hin : vp_in (nI j) 3 := vp_in_nI hj (by omega)
  intro d
  induction d with
  | zero =>
    intro i n a hi hn a0 ha h8 h
    obtain ⟨n, rfl⟩ : ∃ j, n = j + 1 := ⟨n - 1, by omega⟩
    have e : i = fd_ct q 8 x := by omega
    have z := fw_it0 hq x0 hx (show fd_ct q 8 x ≤ i by omega)
    have e2 : fd_rd q (8 - i) a (fd_it q i x) = a := by
      rcases Nat.eq_zero_or_pos (8 - i) with w | w
      · rw [w]
        rfl
      · obtain ⟨m, hm⟩ : ∃ m, 8 - i = m + 1 := ⟨8 - i - 1, by omega⟩
        rw [hm]
        simp only [fd_rd]
        rw [if_neg (by omega)]
    rw [e2] at h
    exact br_t (nI_le (by omega) (by omega)) ⟨hin, nm_e h⟩
  | succ d ih =>
    intro i n a hi hn a0 ha h8 h
    obtain ⟨n, rfl⟩ : ∃ j, n = j + 1 := ⟨n - 1, by omega⟩
    have ic : i < fd_ct q 8 x := by omega
    obtain ⟨F, d1⟩ := fw_itF hq x0 hx ic
    obtain ⟨i0, i9⟩ := fd_itb hq i x x0 hx
    obtain ⟨m0, m9, m1, _⟩ := fd_M0 hq F.1
    obtain ⟨s1, s2, s3, s4, s5, s6, s7⟩ := fd_nxS hq i0 i9 d1
    have w : fd_dg q (fd_lf q (fd_it q i x)) ≤ fd_mu q (fd_lf q (fd_it q i x)) 8 (fd_it q i x) * fd_dg q (fd_lf q (fd_it q i x)) := Nat.le_mul_of_pos_left _ s5
    obtain ⟨p0, pd⟩ := fd_prd hq ha a0 m0 m9 (by omega)
    have e : fd_rd q (8 - i) a (fd_it q i x) = fd_rd q (8 - (i + 1)) (fd_pr q a (fd_lf q (fd_it q i x)) 9) (fd_it q (i + 1) x) := by
      have e1 : 8 - i = (8 - (i + 1)) + 1 := by omega
      rw [e1, fd_its]
      simp only [fd_rd]
      rw [if_pos d1]
    rw [e] at h
    refine br_f (nI_ge (by omega) (by omega)) ⟨vp_in_nI (by omega) (by omega), ?_⟩
    rw [nI_clamp (by omega), (T i ic).1]
    refine yw_p hq ha a0 m0 m9 (by omega) (nm_r (nI_1 i) (ih (i + 1) n _ (by omega) (by omega) p0 (fd_pr9 _ _ 9) ?_ h))
    rw [fd_its]
    omega
theorem i_vc_radical {k : Nat} {u : SX} {v : SY} (I : i_Rel k u v) (hk : k + 4 ≤ 2049) (v1 : Int32) : wpX_radical (fun r u' => wpY_radical (fun r' v' => r' = r ∧ i_Rel (k + 4) u' v') v v1) u v1 := by
  obtain ⟨q, pw, rg, rm, fo, fa, og, hq, rfl, rfl, hp, hr⟩ := I
  unfold wpX_radical wpY_radical
  dsimp only
  rcases fw_ix v1 with hb | ⟨j, hj, rfl⟩
  · exact xreg0 hb (br_t rfl (yready1 hb (br_f (by decide) ⟨rfl, fw_rel hq hp hr⟩)))
  · have hin : vp_in (nI j) 3 := vp_in_nI hj (by omega)
    obtain ⟨x, hx, e⟩ := fw_rg hr hj
    refine xreg1 hj (br_f (by decide) ⟨hin, ?_⟩)
    by_cases z : rg (nI j).toNatClampNeg = 0
    · exact br_t z (yready2 hj z (br_f (by decide) ⟨rfl, fw_rel hq hp hr⟩))
    · have x0 : 0 < x := by
        rcases Nat.eq_zero_or_pos x with w | w
        · rw [e, w] at z
          exact absurd rfl z
        · exact w
      have c8 := fw_ct8 hq x0 hx
      have x8 := fd_dg8 hx
      obtain ⟨a1, a2⟩ := fd_1 hq
      obtain ⟨r0, r9, r1, r2⟩ := fd_rdS hq 8 1 x (by omega) a1 x0 hx (by omega) x8
      have X1 : ∀ {post : Int32 → Prop}, post (nI (fd_rd q 8 1 x)) → wpX_radicalOf post (nI (q + 1), pw, rg) (rg (nI j).toNatClampNeg) := by
        intro post h
        rw [e]
        exact xw_rd hq hp x0 hx h
      refine br_f z ⟨hin, X1 ⟨hin, nm_e ⟨hin, ?_⟩⟩⟩
      refine yready0 hq hj x0 hx e (fun rm' fa' og' T => br_t (by decide) ⟨10, ?_⟩)
      exact yw_rd hq hj x0 hx T (fd_ct q 8 x) 0 10 1 (by omega) (by omega) (by omega) a1 (by show fd_dg q 1 + fd_dg q x ≤ 8; omega) ⟨pk_us.symm, fw_rel hq hp (fw_Ru hr r9)⟩
