/-! the relation; the owed rows of the arithmetic -/
def fw_R (q : Nat) (rg : Nat → Int32) : Prop := ∀ i, i < 3 → ∃ c, c < (q + 1) ^ 9 ∧ rg i = nI c
theorem fw_Ru {q : Nat} {rg : Nat → Int32} (h : fw_R q rg) {j c : Nat} (hc : c < (q + 1) ^ 9) : fw_R q (upd rg j (nI c)) := by
  intro i hi
  by_cases e : i = j
  · subst e
    exact ⟨c, hc, pk_us⟩
  · obtain ⟨d, h1, h2⟩ := h i hi
    exact ⟨d, h1, by rw [pk_un e]; exact h2⟩
/-- the same prime, the same registers, each a code -/
def i_Rel (_ : Nat) (u : SX) (v : SY) : Prop :=
  ∃ (q : Nat) (pw rg : Nat → Int32) (rm fo : Int32) (fa og : Nat → Int32), (q = 1 ∨ q = 2 ∨ q = 4) ∧ u = (nI (q + 1), pw, rg) ∧ v = (nI (q + 1), nI ((q + 1) ^ 9), rm, fo, rg, fa, og) ∧ fw_P q pw ∧ fw_R q rg
theorem fw_rel {k q : Nat} {pw rg : Nat → Int32} {rm fo : Int32} {fa og : Nat → Int32} (hq : q = 1 ∨ q = 2 ∨ q = 4) (hp : fw_P q pw) (hr : fw_R q rg) : i_Rel k (nI (q + 1), pw, rg) (nI (q + 1), nI ((q + 1) ^ 9), rm, fo, rg, fa, og) :=
  ⟨q, pw, rg, rm, fo, fa, og, hq, rfl, rfl, hp, hr⟩
theorem i_up {k : Nat} {u : SX} {v : SY} (h : i_Rel k u v) : i_Rel (k + 4) u v := h
section
variable {q : Nat} {pw rg : Nat → Int32}
theorem xw_in50 {post : SX → Prop} (hq : q = 1 ∨ q = 2 ∨ q = 4) (h : ∀ pw', fw_P q pw' → post (nI (q + 1), pw', rg)) : ∀ d i n pw, i + d = 10 → d < n → 1 ≤ i → (∀ j, j < i → pw j = nI ((q + 1) ^ j)) → wX_init_50 post (nI (q + 1)) n (nI i) pw rg := by
  intro d
  induction d with
  | zero =>
    intro i n pw hi hn h1 hp
    obtain ⟨n, rfl⟩ : ∃ j, n = j + 1 := ⟨n - 1, by omega⟩
    exact br_t (nI_le (a := 10) (by omega) (by omega)) (h pw (fun j hj => hp j (by omega)))
  | succ d ih =>
    intro i n pw hi hn h1 hp
    obtain ⟨n, rfl⟩ : ∃ j, n = j + 1 := ⟨n - 1, by omega⟩
    have e : nI i - 1 = nI (i - 1) := pk_sub (b := 1) h1
    have e2 : pw (nI i - 1).toNatClampNeg * nI (q + 1) = nI ((q + 1) ^ i) := by
      rw [e, nI_clamp (by omega), hp (i - 1) (by omega), pk_mul, ← fd_ps, Nat.sub_add_cancel h1]
    refine br_f (nI_ge (b := 10) (by omega) (by omega)) ⟨by rw [e]; exact vp_in_nI (by omega) (by omega), vp_in_nI (by omega) (by omega), nm_r (e' := upd pw i (nI ((q + 1) ^ i))) (by rw [e2, nI_clamp (by omega)]) (nm_r (nI_1 i) (ih (i + 1) n _ (by omega) (by omega) (by omega) (fun j hj => ?_)))⟩
    by_cases z : j = i
    · subst z
      exact pk_us
    · rw [pk_un z]
      exact hp j (by omega)
theorem xw_in {post : SX → Prop} (hq : q = 1 ∨ q = 2 ∨ q = 4) (h : ∀ pw', fw_P q pw' → post (nI (q + 1), pw', rg)) : wX_init_38 post (nI (q + 1)) 0 (fun _ => 0) rg := by
  unfold wX_init_38
  refine nm_e ⟨10, xw_in50 hq h 9 1 10 _ (by omega) (by omega) (by omega) (fun j hj => ?_)⟩
  have z : j = 0 := by omega
  subst z
  rw [pk_us, Nat.pow_zero]
  rfl
theorem yw_in56 {post : SY → Prop} {rm fo : Int32} {fa og : Nat → Int32} (h : post (nI (q + 1), nI ((q + 1) ^ 9), rm, fo, rg, fa, og)) : ∀ d i n, i + d = 9 → d < n → wY_init_56 post (nI (q + 1)) rm fo rg fa og n (nI i) (nI ((q + 1) ^ i)) := by
  intro d
  induction d with
  | zero =>
    intro i n hi hn
    obtain ⟨n, rfl⟩ : ∃ j, n = j + 1 := ⟨n - 1, by omega⟩
    have e : i = 9 := by omega
    subst e
    exact br_t (nI_le (a := 9) (b := 9) (by omega) (by omega)) h
  | succ d ih =>
    intro i n hi hn
    obtain ⟨n, rfl⟩ : ∃ j, n = j + 1 := ⟨n - 1, by omega⟩
    exact br_f (nI_ge (b := 9) (by omega) (by omega)) (nm_r (e' := nI ((q + 1) ^ (i + 1))) (by rw [pk_mul, ← fd_ps]) (nm_r (nI_1 i) (ih (i + 1) n (by omega) (by omega))))
theorem yw_in {post : SY → Prop} {rm fo : Int32} {fa og : Nat → Int32} (h : post (nI (q + 1), nI ((q + 1) ^ 9), rm, fo, rg, fa, og)) : ∃ n, wY_init_56 post (nI (q + 1)) rm fo rg fa og n 0 1 := by
  have k := yw_in56 h 9 0 10 (by omega) (by omega)
  rw [Nat.pow_zero] at k
  exact ⟨10, k⟩
theorem fw_in {k : Nat} (hq : q = 1 ∨ q = 2 ∨ q = 4) : wX_init_38 (fun u => ∃ n, wY_init_56 (fun v => i_Rel k u v) (nI (q + 1)) 0 0 (fun _ => 0) (fun _ => 0) (fun _ => 0) n 0 1) (nI (q + 1)) 0 (fun _ => 0) (fun _ => 0) :=
  xw_in hq (fun pw' hp => yw_in (fw_rel hq hp (fun i _ => ⟨0, fd_pp q 9, rfl⟩)))
end
theorem fw_mono {z m : Int32} {pw rg : Nat → Int32} {A B : SX → Prop} (h : ∀ u, A u → B u) : ∀ n i pw, wX_init_50 A z n i pw rg → wX_init_50 B z n i pw rg := by
  intro n
  induction n with
  | zero => intro i pw k; exact k
  | succ n ih =>
    intro i pw k
    exact ⟨fun a => h _ (k.1 a), fun a => ⟨(k.2 a).1, (k.2 a).2.1, fun p e x ex => ih _ _ ((k.2 a).2.2 p e x ex)⟩⟩
theorem i_vc0 (k0 : Int32) : wpX_init (fun u => wpY_init (fun v => i_Rel 1 u v) k0) k0 := by
  unfold wpX_init wpY_init
  by_cases h0 : k0 = 0
  · refine br_t h0 (fun p e => ?_)
    obtain ⟨n, hn⟩ := fw_in (k := 1) (q := 1) (by omega) p e
    exact ⟨n, fw_mono (m := 0) (pw := p) (fun u hu => br_t h0 hu) n _ _ hn⟩
  · by_cases h1 : k0 = 1
    · refine br_f h0 (br_t h1 (fun p e => ?_))
      obtain ⟨n, hn⟩ := fw_in (k := 1) (q := 2) (by omega) p e
      exact ⟨n, fw_mono (m := 0) (pw := p) (fun u hu => br_f h0 (br_t h1 hu)) n _ _ hn⟩
    · refine br_f h0 (br_f h1 (fun p e => ?_))
      obtain ⟨n, hn⟩ := fw_in (k := 1) (q := 4) (by omega) p e
      exact ⟨n, fw_mono (m := 0) (pw := p) (fun u hu => br_f h0 (br_f h1 hu)) n _ _ hn⟩
section
variable {u : SX} {v : SY} {a : Int32} {post : Int32 → Prop}
theorem xreg0 (ha : a < 0 ∨ nI 3 ≤ a) (h : post 0) : wpX_isRegister post u a := by
  obtain ⟨m, pw, rg⟩ := u
  by_cases z : a < 0
  · exact br_t z h
  · rcases ha with w | w
    · exact absurd w z
    · exact br_f z (br_t w h)
theorem xreg1 {j : Nat} (hj : j < 3) (h : post 1) : wpX_isRegister post u (nI j) := by
  obtain ⟨m, pw, rg⟩ := u
  exact br_f (nI_pos (by omega)) (br_f (nI_ge (b := 3) hj (by omega)) h)
theorem ybad1 (ha : a < 0 ∨ nI 3 ≤ a) (h : post 1) : wpY_bad post v a := by
  obtain ⟨p, en, rm, fo, rg, fa, og⟩ := v
  by_cases z : a < 0
  · exact br_t z h
  · rcases ha with w | w
    · exact absurd w z
    · refine br_f z (br_f (fun y => ?_) h)
      have := Int32.le_trans w y
      exact absurd this (by decide)
theorem ybad0 {j : Nat} (hj : j < 3) (h : post 0) : wpY_bad post v (nI j) := by
  obtain ⟨p, en, rm, fo, rg, fa, og⟩ := v
  exact br_f (nI_pos (by omega)) (br_t (nI_le (b := 2) (by omega) (by omega)) h)
theorem fw_ix (a : Int32) : (a < 0 ∨ nI 3 ≤ a) ∨ ∃ j : Nat, j < 3 ∧ a = nI j := by
  rcases pk_ix a (n := 3) (by omega) with h | h | h
  · exact Or.inl (Or.inl h)
  · exact Or.inl (Or.inr h)
  · exact Or.inr h
end
theorem i_vc_prime {k : Nat} {u : SX} {v : SY} (I : i_Rel k u v) (hk : k + 4 ≤ 2049) : wpX_prime (fun r => wpY_prime (fun r' => r' = r ∧ i_Rel (k + 4) u v) v) u := by
  obtain ⟨q, pw, rg, rm, fo, fa, og, hq, rfl, rfl, hp, hr⟩ := I
  exact ⟨rfl, fw_rel hq hp hr⟩
theorem i_vc_load {k : Nat} {u : SX} {v : SY} (I : i_Rel k u v) (hk : k + 4 ≤ 2049) (v1 : Int32) (v2 : Int32) : wpX_load (fun r u' => wpY_load (fun r' v' => r' = r ∧ i_Rel (k + 4) u' v') v v1 v2) u v1 v2 := by
  obtain ⟨q, pw, rg, rm, fo, fa, og, hq, rfl, rfl, hp, hr⟩ := I
  unfold wpX_load wpY_load
  dsimp only
  rcases fw_ix v1 with hb | ⟨j, hj, rfl⟩
  · exact xreg0 hb (br_t rfl (ybad1 hb (br_f (by decide) ⟨rfl, fw_rel hq hp hr⟩)))
  · refine xreg1 hj (br_f (by decide) ?_)
    have hin : vp_in (nI j) 3 := vp_in_nI hj (by omega)
    by_cases z : v2 < 0
    · exact br_t z (ybad0 hj (br_t rfl (br_t z ⟨rfl, fw_rel hq hp hr⟩)))
    · refine br_f z ?_
      rw [hp 9 (by omega)]
      by_cases w : v2 < nI ((q + 1) ^ 9)
      · refine br_t w ⟨hin, nm_e ⟨hin, nm_e (ybad0 hj (br_t rfl (br_f z (br_t w ⟨hin, nm_e ⟨hin, nm_e ⟨rfl, ?_⟩⟩⟩))))⟩⟩
        obtain ⟨c, hc, rfl⟩ := nI_of z
        exact fw_rel hq hp (fw_Ru hr ((nI_ltI hc (fw_pl hq (by omega))).mp w))
      · exact br_f w (ybad0 hj (br_t rfl (br_f z (br_f w ⟨rfl, fw_rel hq hp hr⟩))))
theorem i_vc_code {k : Nat} {u : SX} {v : SY} (I : i_Rel k u v) (hk : k + 4 ≤ 2049) (v1 : Int32) : wpX_code (fun r => wpY_code (fun r' => r' = r ∧ i_Rel (k + 4) u v) v v1) u v1 := by
  obtain ⟨q, pw, rg, rm, fo, fa, og, hq, rfl, rfl, hp, hr⟩ := I
  unfold wpX_code wpY_code
  dsimp only
  rcases fw_ix v1 with hb | ⟨j, hj, rfl⟩
  · exact xreg0 hb (br_t rfl (ybad1 hb (br_f (by decide) ⟨rfl, fw_rel hq hp hr⟩)))
  · have hin : vp_in (nI j) 3 := vp_in_nI hj (by omega)
    exact xreg1 hj (br_f (by decide) ⟨hin, ybad0 hj (br_t rfl ⟨hin, rfl, fw_rel hq hp hr⟩)⟩)
theorem fw_rg {q : Nat} {rg : Nat → Int32} (hr : fw_R q rg) {j : Nat} (hj : j < 3) : ∃ c, c < (q + 1) ^ 9 ∧ rg (nI j).toNatClampNeg = nI c := by
  rw [nI_clamp (by omega)]
  exact hr j hj
theorem i_vc_degree {k : Nat} {u : SX} {v : SY} (I : i_Rel k u v) (hk : k + 4 ≤ 2049) (v1 : Int32) : wpX_degree (fun r => wpY_degree (fun r' => r' = r ∧ i_Rel (k + 4) u v) v v1) u v1 := by
  obtain ⟨q, pw, rg, rm, fo, fa, og, hq, rfl, rfl, hp, hr⟩ := I
  unfold wpX_degree wpY_degree
  dsimp only
  rcases fw_ix v1 with hb | ⟨j, hj, rfl⟩
  · exact xreg0 hb (br_t rfl (ybad1 hb (br_f (by decide) ⟨rfl, fw_rel hq hp hr⟩)))
  · have hin : vp_in (nI j) 3 := vp_in_nI hj (by omega)
    obtain ⟨x, hx, e⟩ := fw_rg hr hj
    refine xreg1 hj (br_f (by decide) ⟨hin, ?_⟩)
    rw [e]
    exact xw_deg hq hp hx (ybad0 hj (br_t rfl ⟨hin, yw_deg hq hx ⟨rfl, fw_rel hq hp hr⟩⟩))
theorem i_vc_add {k : Nat} {u : SX} {v : SY} (I : i_Rel k u v) (hk : k + 4 ≤ 2049) (v1 : Int32) (v2 : Int32) : wpX_add (fun r u' => wpY_add (fun r' v' => r' = r ∧ i_Rel (k + 4) u' v') v v1 v2) u v1 v2 := by
  obtain ⟨q, pw, rg, rm, fo, fa, og, hq, rfl, rfl, hp, hr⟩ := I
  unfold wpX_add wpY_add
  dsimp only
  rcases fw_ix v1 with hb | ⟨j, hj, rfl⟩
  · exact xreg0 hb (br_t rfl (ybad1 hb (br_f (by decide) ⟨rfl, fw_rel hq hp hr⟩)))
  · refine xreg1 hj (br_f (by decide) ?_)
    rcases fw_ix v2 with hb | ⟨l, hl, rfl⟩
    · exact xreg0 hb (br_t rfl (ybad0 hj (br_t rfl (ybad1 hb (br_f (by decide) ⟨rfl, fw_rel hq hp hr⟩)))))
    · have hin : vp_in (nI j) 3 := vp_in_nI hj (by omega)
      have hil : vp_in (nI l) 3 := vp_in_nI hl (by omega)
      obtain ⟨x, hx, e⟩ := fw_rg hr hj
      obtain ⟨y, hy, e2⟩ := fw_rg hr hl
      refine xreg1 hl (br_f (by decide) ⟨hin, hil, ?_⟩)
      rw [e, e2]
      exact xw_c (k := 1) hq hp hx hy (by omega) ⟨hin, nm_e ⟨hin, ybad0 hj (br_t rfl (ybad0 hl (br_t rfl ⟨hin, hil, yw_c (k := 1) hq hx hy (by omega) ⟨hin, nm_e ⟨hin, rfl, fw_rel hq hp (fw_Ru hr (fd_clt q _ _ _ 9))⟩⟩⟩)))⟩⟩
theorem i_vc_subtract {k : Nat} {u : SX} {v : SY} (I : i_Rel k u v) (hk : k + 4 ≤ 2049) (v1 : Int32) (v2 : Int32) : wpX_subtract (fun r u' => wpY_subtract (fun r' v' => r' = r ∧ i_Rel (k + 4) u' v') v v1 v2) u v1 v2 := by
  obtain ⟨q, pw, rg, rm, fo, fa, og, hq, rfl, rfl, hp, hr⟩ := I
  unfold wpX_subtract wpY_subtract
  dsimp only
  have q5 := fd_bq hq
  rcases fw_ix v1 with hb | ⟨j, hj, rfl⟩
  · exact xreg0 hb (br_t rfl (ybad1 hb (br_f (by decide) ⟨rfl, fw_rel hq hp hr⟩)))
  · refine xreg1 hj (br_f (by decide) ?_)
    rcases fw_ix v2 with hb | ⟨l, hl, rfl⟩
    · exact xreg0 hb (br_t rfl (ybad0 hj (br_t rfl (ybad1 hb (br_f (by decide) ⟨rfl, fw_rel hq hp hr⟩)))))
    · have hin : vp_in (nI j) 3 := vp_in_nI hj (by omega)
      have hil : vp_in (nI l) 3 := vp_in_nI hl (by omega)
      obtain ⟨x, hx, e⟩ := fw_rg hr hj
      obtain ⟨y, hy, e2⟩ := fw_rg hr hl
      refine xreg1 hl (br_f (by decide) ⟨hin, hil, ?_⟩)
      rw [e, e2, nI_pred]
      exact xw_c (k := q) hq hp hx hy (by omega) ⟨hin, nm_e ⟨hin, ybad0 hj (br_t rfl (ybad0 hl (br_t rfl ⟨hin, hil, yw_c (k := q) hq hx hy (by omega) ⟨hin, nm_e ⟨hin, rfl, fw_rel hq hp (fw_Ru hr (fd_clt q _ _ _ 9))⟩⟩⟩)))⟩⟩
