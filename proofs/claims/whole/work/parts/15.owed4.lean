/-! irreducibles, nextIrreducible -/
/-- irreducible, as both sides ask it of a code -/
def fd_ir (q x : Nat) : Prop := 1 ≤ fd_dg q x ∧ fd_dg q (fd_lf q x) = fd_dg q x
noncomputable def fd_ic (q lo : Nat) : Nat → Nat
  | 0 => 0
  | k + 1 => fd_ic q lo k + @ite Nat (fd_ir q (lo + k)) (Classical.propDecidable _) 1 0
theorem fd_ic1 {q lo k : Nat} (h : fd_ir q (lo + k)) : fd_ic q lo (k + 1) = fd_ic q lo k + 1 := by
  simp only [fd_ic]
  rw [if_pos h]
theorem fd_ic0 {q lo k : Nat} (h : ¬ fd_ir q (lo + k)) : fd_ic q lo (k + 1) = fd_ic q lo k := by
  simp only [fd_ic]
  rw [if_neg h]
  rfl
theorem xw_ic {q d : Nat} {post : Int32 → Prop} {pw rg : Nat → Int32} (hq : q = 1 ∨ q = 2 ∨ q = 4) (hp : fw_P q pw) (h8 : d ≤ 8) (h : post (nI (fd_ic q ((q + 1) ^ d) ((q + 1) ^ d)))) : ∀ e k n, k + e = (q + 1) ^ d → e < n → wX_irreducibles_21 post (nI d) (nI (q + 1)) pw rg n (nI (fd_ic q ((q + 1) ^ d) k)) (nI ((q + 1) ^ d + k)) := by
  have b9 := fd_b9 hq
  have pd := fd_pm q (show d ≤ 9 by omega)
  have ea := fw_at hp (show d < 10 by omega)
  intro e
  induction e with
  | zero =>
    intro k n hk hn
    obtain ⟨n, rfl⟩ : ∃ j, n = j + 1 := ⟨n - 1, by omega⟩
    have ek : k = (q + 1) ^ d := by omega
    refine ⟨vp_in_nI (by omega) (by omega), br_t (by rw [ea, fw_2]; exact nI_le (by omega) (by omega)) ?_⟩
    rw [ek]
    exact h
  | succ e ih =>
    intro k n hk hn
    obtain ⟨n, rfl⟩ : ∃ j, n = j + 1 := ⟨n - 1, by omega⟩
    have K := ih (k + 1) n (by omega) (by omega)
    have c9 : (q + 1) ^ d + k < (q + 1) ^ 9 := by
      have a := fd_m2 (m := (q + 1) ^ d + k) (e := d) hq (by omega)
      exact Nat.lt_of_lt_of_le a (fd_pm q (by omega))
    refine ⟨vp_in_nI (by omega) (by omega), br_f (by rw [ea, fw_2]; exact nI_ge (by omega) (by omega)) (xw_irr hq hp c9 (fun a b => ?_) (fun a => ?_))⟩
    · rw [fd_ic1 ⟨a, b⟩] at K
      exact br_f (by decide) (nm_r (nI_1 _) (nm_r (nI_1 _) K))
    · rw [fd_ic0 a] at K
      exact br_t rfl (nm_r (nI_1 _) K)
theorem yw_ic {q d : Nat} {post : Int32 → SY → Prop} {en : Int32} {rg : Nat → Int32} (hq : q = 1 ∨ q = 2 ∨ q = 4) (h8 : d ≤ 8) (h : ∀ rm' fo' fa' og', post (nI (fd_ic q ((q + 1) ^ d) ((q + 1) ^ d))) (nI (q + 1), en, rm', fo', rg, fa', og')) : ∀ e k n rm fo fa og, k + e = (q + 1) ^ d → e < n → wY_irreducibles_39 post (nI ((q + 1) ^ d)) n (nI (fd_ic q ((q + 1) ^ d) k)) (nI ((q + 1) ^ d + k)) (nI (q + 1)) en rm fo rg fa og := by
  have b9 := fd_b9 hq
  have pd := fd_pm q (show d ≤ 9 by omega)
  intro e
  induction e with
  | zero =>
    intro k n rm fo fa og hk hn
    obtain ⟨n, rfl⟩ : ∃ j, n = j + 1 := ⟨n - 1, by omega⟩
    have ek : k = (q + 1) ^ d := by omega
    refine br_t (by rw [fw_2]; exact nI_le (by omega) (by omega)) ?_
    rw [ek]
    exact h _ _ _ _
  | succ e ih =>
    intro k n rm fo fa og hk hn
    obtain ⟨n, rfl⟩ : ∃ j, n = j + 1 := ⟨n - 1, by omega⟩
    have K := fun rm fo fa og => ih (k + 1) n rm fo fa og (by omega) (by omega)
    have c9 : (q + 1) ^ d + k < (q + 1) ^ 9 := by
      have a := fd_m2 (m := (q + 1) ^ d + k) (e := d) hq (by omega)
      exact Nat.lt_of_lt_of_le a (fd_pm q (by omega))
    refine br_f (by rw [fw_2]; exact nI_ge (by omega) (by omega)) (yw_irr hq c9 (fun a b rm' fo' fa' og' => ?_) (fun a rm' fo' fa' og' => ?_))
    · have K' := K rm' fo' fa' og'
      rw [fd_ic1 ⟨a, b⟩] at K'
      exact br_f (by decide) (nm_r (nI_1 _) (nm_r (nI_1 _) K'))
    · have K' := K rm' fo' fa' og'
      rw [fd_ic0 a] at K'
      exact br_t rfl (nm_r (nI_1 _) K')
theorem yw_ic16 {q d : Nat} {post : Int32 → SY → Prop} {en rm fo : Int32} {rg fa og : Nat → Int32} (hd : d < 10) (h : ∃ n, wY_irreducibles_39 post (nI ((q + 1) ^ d)) n 0 (nI ((q + 1) ^ d)) (nI (q + 1)) en rm fo rg fa og) : ∀ e i n, i + e = d → e < n → wY_irreducibles_16 post (nI d) (nI (q + 1)) en rm fo rg fa og n (nI ((q + 1) ^ i)) (nI i) := by
  intro e
  induction e with
  | zero =>
    intro i n hi hn
    obtain ⟨n, rfl⟩ : ∃ j, n = j + 1 := ⟨n - 1, by omega⟩
    have ei : i = d := by omega
    subst ei
    exact br_t (nI_le (Nat.le_refl _) (by omega)) h
  | succ e ih =>
    intro i n hi hn
    obtain ⟨n, rfl⟩ : ∃ j, n = j + 1 := ⟨n - 1, by omega⟩
    exact br_f (nI_ge (by omega) (by omega)) (nm_r (e' := nI ((q + 1) ^ (i + 1))) (by rw [pk_mul, ← fd_ps]) (nm_r (nI_1 i) (ih (i + 1) n (by omega) (by omega))))
theorem i_vc_irreducibles {k : Nat} {u : SX} {v : SY} (I : i_Rel k u v) (hk : k + 4 ≤ 2049) (v1 : Int32) : wpX_irreducibles (fun r => wpY_irreducibles (fun r' v' => r' = r ∧ i_Rel (k + 4) u v') v v1) u v1 := by
  obtain ⟨q, pw, rg, rm, fo, fa, og, hq, rfl, rfl, hp, hr⟩ := I
  unfold wpX_irreducibles wpY_irreducibles
  dsimp only
  by_cases a : v1 < 1
  · exact br_t a (br_t a ⟨rfl, fw_rel hq hp hr⟩)
  by_cases b : v1 ≤ 4
  · refine br_f a (br_t b ?_)
    have a0 : ¬ v1 < 0 := fun z => a (Int32.lt_trans z (by decide))
    obtain ⟨d, hd, rfl⟩ := nI_of a0
    have d4 : d ≤ 4 := (nI_leI (b := 4) hd (by omega)).mp b
    refine ⟨vp_in_nI (by omega) (by omega), nm_r (fw_at hp (by omega)) ⟨(q + 1) ^ d + 1, ?_⟩⟩
    refine xw_ic hq hp (by omega) ?_ ((q + 1) ^ d) 0 _ (by omega) (by omega)
    refine br_f a (br_t b ⟨d + 1, ?_⟩)
    have K := yw_ic16 (q := q) (d := d) (en := nI ((q + 1) ^ 9)) (rm := rm) (fo := fo) (rg := rg) (fa := fa) (og := og) (post := fun r' v' => r' = nI (fd_ic q ((q + 1) ^ d) ((q + 1) ^ d)) ∧ i_Rel (k + 4) (nI (q + 1), pw, rg) v') (by omega) ⟨(q + 1) ^ d + 1, yw_ic hq (by omega) (fun _ _ _ _ => ⟨rfl, fw_rel hq hp hr⟩) ((q + 1) ^ d) 0 _ rm fo fa og (by omega) (by omega)⟩ d 0 (d + 1) (by omega) (by omega)
    rw [Nat.pow_zero] at K
    exact K
  · exact br_f a (br_f b (br_f a (br_f b ⟨rfl, fw_rel hq hp hr⟩)))
/-- m is the least irreducible code beyond a, or the end -/
def fd_nt (q : Nat) (a : Int32) (m : Nat) : Prop :=
  m ≤ (q + 1) ^ 9 ∧ (m < (q + 1) ^ 9 → fd_M q m ∧ fd_ir q m ∧ a < nI m) ∧ ∀ c, fd_M q c → a < nI c → fd_ir q c → m ≤ c
noncomputable def fd_na (q m : Nat) : Int32 := if m < (q + 1) ^ 9 then nI m else -1
theorem fd_nte {q : Nat} (hq : q = 1 ∨ q = 2 ∨ q = 4) (a : Int32) : ∃ m, fd_nt q a m := by
  rcases Classical.em (∃ c, fd_M q c ∧ a < nI c ∧ fd_ir q c) with h | h
  · obtain ⟨m, h1, h2⟩ := pk_least _ h
    have m9 := (fd_M0 hq h1.1).2.1
    refine ⟨m, by omega, fun _ => ⟨h1.1, h1.2.2, h1.2.1⟩, fun c a1 a2 a3 => ?_⟩
    rcases Nat.lt_or_ge c m with w | w
    · exact absurd ⟨a1, a2, a3⟩ (h2 c w)
    · exact w
  · refine ⟨(q + 1) ^ 9, Nat.le_refl _, fun z => absurd z (by omega), fun c a1 a2 a3 => absurd ⟨c, a1, a2, a3⟩ h⟩
theorem fd_nts {q m d : Nat} {a : Int32} (hq : q = 1 ∨ q = 2 ∨ q = 4) (hm : fd_nt q a m) (h8 : d ≤ 8) (h : 2 * (q + 1) ^ d ≤ m) : (q + 1) ^ (d + 1) ≤ m := by
  rcases Nat.lt_or_ge m ((q + 1) ^ 9) with z | z
  · obtain ⟨_, _, _, _, _, c6, c7⟩ := fd_M0 hq (hm.2.1 z).1
    rcases Nat.lt_or_ge d (fd_dg q m) with w | w
    · exact Nat.le_trans (fd_pm q w) c6
    · have := fd_pm q w
      omega
  · exact Nat.le_trans (fd_pm q (by omega)) z
theorem xw_ni45 {q d m : Nat} {a : Int32} {post J : Int32 → Prop} {pw rg : Nat → Int32} (hq : q = 1 ∨ q = 2 ∨ q = 4) (hp : fw_P q pw) (h1 : 1 ≤ d) (h8 : d ≤ 8) (hm : fd_nt q a m) (h : post (fd_na q m)) (hJ : (q + 1) ^ (d + 1) ≤ m → J (nI (d + 1))) : ∀ n c, 2 * (q + 1) ^ d < n + c → (q + 1) ^ d ≤ c → c ≤ 2 * (q + 1) ^ d → a < nI c → c ≤ m → wX_nextIrreducible_45 post J a (nI d) (nI (2 * (q + 1) ^ d - 1)) (nI (q + 1)) pw rg n (nI c) := by
  have b9 := fd_b9 hq
  have pd := fd_pm q (show d ≤ 9 by omega)
  have pp := fd_pp q d
  intro n
  induction n with
  | zero => intro c hn _ hc; omega
  | succ n ih =>
    intro c hn hlo hhi hac hcm
    refine br_f (Int32.not_le.mpr hac) (pk_lt (2 * (q + 1) ^ d - 1) c (fun z => nm_r (nI_1 d) (hJ (fd_nts hq hm h8 (by omega)))) (fun z => ?_) rfl rfl (by omega) (by omega))
    have cM : fd_M q c := ⟨d, h1, h8, hlo, by omega⟩
    have c9 := (fd_M0 hq cM).2.1
    refine xw_irr hq hp c9 (fun x y => br_f (by decide) ?_) (fun x => br_t rfl (nm_r (nI_1 c) (ih (c + 1) (by omega) (by omega) (by omega) (Int32.lt_trans hac (nI_lt (by omega) (by omega))) ?_)))
    · have e : m = c := Nat.le_antisymm (hm.2.2 c cM hac ⟨x, y⟩) hcm
      unfold fd_na at h
      rw [e, if_pos c9] at h
      exact h
    · rcases Nat.lt_or_ge c m with w | w
      · exact w
      · have e : m = c := by omega
        have k := hm.2.1 (by omega)
        rw [e] at k
        exact absurd k.2.1 x
theorem xw_ni2 {q m : Nat} {a : Int32} {post : Int32 → Prop} {pw rg : Nat → Int32} (hq : q = 1 ∨ q = 2 ∨ q = 4) (hp : fw_P q pw) (hm : fd_nt q a m) (h : post (fd_na q m)) : ∀ k d n, d + k = 9 → k < n → 1 ≤ d → (q + 1) ^ d ≤ m → wX_nextIrreducible_2 post a (nI (q + 1)) pw rg n (nI d) := by
  have b9 := fd_b9 hq
  intro k
  induction k with
  | zero =>
    intro d n hd hn h1 hdm
    obtain ⟨n, rfl⟩ : ∃ j, n = j + 1 := ⟨n - 1, by omega⟩
    have e : d = 9 := by omega
    subst e
    unfold fd_na at h
    rw [if_neg (by omega)] at h
    exact br_t (nI_lt (a := 8) (b := 9) (by omega) (by omega)) h
  | succ k ih =>
    intro d n hd hn h1 hdm
    obtain ⟨n, rfl⟩ : ∃ j, n = j + 1 := ⟨n - 1, by omega⟩
    have pd := fd_pm q (show d ≤ 9 by omega)
    have pp := fd_pp q d
    have ea := fw_at hp (show d < 10 by omega)
    have hin : vp_in (nI d) 10 := vp_in_nI (by omega) (by omega)
    have K := xw_ni45 (post := post) (rg := rg) (J := wX_nextIrreducible_2 post a (nI (q + 1)) pw rg n) hq hp h1 (by omega) hm h (fun w => ih (d + 1) n (by omega) (by omega) (by omega) w)
    refine br_f (nI_nlt (a := 8) (by omega) (by omega)) ⟨hin, nm_r ea ⟨hin, nm_r (e' := nI (2 * (q + 1) ^ d - 1)) (by rw [ea, fw_2]; exact pk_sub (b := 1) (by omega)) ?_⟩⟩
    by_cases z : a < nI ((q + 1) ^ d)
    · exact br_t z ⟨_, K ((q + 1) ^ d + 1) ((q + 1) ^ d) (by omega) (Nat.le_refl _) (by omega) z hdm⟩
    · refine br_f z ?_
      by_cases w : nI (2 * (q + 1) ^ d - 1) ≤ a
      · refine br_t w ⟨1, br_t (Int32.not_lt.mp z) (nm_r (nI_1 d) (ih (d + 1) n (by omega) (by omega) (by omega) (fd_nts hq hm (by omega) ?_)))⟩
        rcases Nat.lt_or_ge m ((q + 1) ^ 9) with y | y
        · have k := (hm.2.1 y).2.2
          have k2 := Int32.lt_of_le_of_lt w k
          have := (nI_ltI (by omega) (by omega)).mp k2
          omega
        · have := fd_m2 (m := 2 * (q + 1) ^ d - 1) (e := d) hq (by omega)
          have := fd_pm q (show d + 1 ≤ 9 by omega)
          omega
      · have a0 : ¬ a < 0 := fun y => z (Int32.lt_of_lt_of_le y (nI_pos' (by omega)))
        obtain ⟨c, hc, rfl⟩ := nI_of a0
        have c1 : (q + 1) ^ d ≤ c := by
          rcases Nat.lt_or_ge c ((q + 1) ^ d) with y | y
          · exact absurd (nI_lt y (by omega)) z
          · exact y
        have c2 : c < 2 * (q + 1) ^ d - 1 := by
          rcases Nat.lt_or_ge c (2 * (q + 1) ^ d - 1) with y | y
          · exact y
          · exact absurd (nI_le y hc) w
        refine br_f w (nm_r (nI_1 c) ⟨_, K ((q + 1) ^ d + 1) (c + 1) (by omega) (by omega) (by omega) (nI_lt (by omega) (by omega)) ?_⟩)
        rcases Nat.lt_or_ge m ((q + 1) ^ 9) with y | y
        · have := (nI_ltI hc (by omega)).mp (hm.2.1 y).2.2
          omega
        · have := fd_m2 (m := 2 * (q + 1) ^ d - 1) (e := d) hq (by omega)
          have := fd_pm q (show d + 1 ≤ 9 by omega)
          omega
theorem yw_ni38 {q d m : Nat} {a : Int32} {post : Int32 → SY → Prop} {J : Int32 → Int32 → Int32 → Int32 → Int32 → Int32 → (Nat → Int32) → (Nat → Int32) → (Nat → Int32) → Prop} {en : Int32} {rg : Nat → Int32} (hq : q = 1 ∨ q = 2 ∨ q = 4) (h1 : 1 ≤ d) (h8 : d ≤ 8) (hm : fd_nt q a m) (h : ∀ rm' fo' fa' og', post (fd_na q m) (nI (q + 1), en, rm', fo', rg, fa', og')) (hJ : (q + 1) ^ (d + 1) ≤ m → ∀ rm' fo' fa' og', J (nI ((q + 1) ^ (d + 1))) (nI (d + 1)) (nI (q + 1)) en rm' fo' rg fa' og') : ∀ n c rm fo fa og, 2 * (q + 1) ^ d < n + c → (q + 1) ^ d ≤ c → c ≤ 2 * (q + 1) ^ d → a < nI c → c ≤ m → wY_nextIrreducible_38 post J a (nI ((q + 1) ^ d)) (nI d) n (nI c) (nI (q + 1)) en rm fo rg fa og := by
  have b9 := fd_b9 hq
  have pd := fd_pm q (show d ≤ 9 by omega)
  have pp := fd_pp q d
  intro n
  induction n with
  | zero => intro c rm fo fa og hn _ hc; omega
  | succ n ih =>
    intro c rm fo fa og hn hlo hhi hac hcm
    refine pk_le (2 * (q + 1) ^ d) c (fun z => nm_r (e' := nI ((q + 1) ^ (d + 1))) (by rw [pk_mul, ← fd_ps]) (nm_r (nI_1 d) (hJ (fd_nts hq hm h8 (by omega)) _ _ _ _))) (fun z => ?_) fw_2 rfl (by omega) (by omega)
    have cM : fd_M q c := ⟨d, h1, h8, hlo, by omega⟩
    have c9 := (fd_M0 hq cM).2.1
    refine yw_irr hq c9 (fun x y rm' fo' fa' og' => br_f (by decide) ?_) (fun x rm' fo' fa' og' => br_t rfl (nm_r (nI_1 c) (ih (c + 1) rm' fo' fa' og' (by omega) (by omega) (by omega) (Int32.lt_trans hac (nI_lt (by omega) (by omega))) ?_)))
    · have e : m = c := Nat.le_antisymm (hm.2.2 c cM hac ⟨x, y⟩) hcm
      have h2 := h rm' fo' fa' og'
      unfold fd_na at h2
      rw [e, if_pos c9] at h2
      exact h2
    · rcases Nat.lt_or_ge c m with w | w
      · exact w
      · have e : m = c := by omega
        have k := hm.2.1 (by omega)
        rw [e] at k
        exact absurd k.2.1 x
theorem yw_ni7 {q m : Nat} {a : Int32} {post : Int32 → SY → Prop} {en : Int32} {rg : Nat → Int32} (hq : q = 1 ∨ q = 2 ∨ q = 4) (hm : fd_nt q a m) (h : ∀ rm' fo' fa' og', post (fd_na q m) (nI (q + 1), en, rm', fo', rg, fa', og')) : ∀ k d n rm fo fa og, d + k = 9 → k < n → 1 ≤ d → (q + 1) ^ d ≤ m → wY_nextIrreducible_7 post a n (nI ((q + 1) ^ d)) (nI d) (nI (q + 1)) en rm fo rg fa og := by
  have b9 := fd_b9 hq
  intro k
  induction k with
  | zero =>
    intro d n rm fo fa og hd hn h1 hdm
    obtain ⟨n, rfl⟩ : ∃ j, n = j + 1 := ⟨n - 1, by omega⟩
    have e : d = 9 := by omega
    subst e
    have h2 := h rm fo fa og
    unfold fd_na at h2
    rw [if_neg (by omega)] at h2
    exact br_t (nI_le (a := 9) (b := 9) (by omega) (by omega)) h2
  | succ k ih =>
    intro d n rm fo fa og hd hn h1 hdm
    obtain ⟨n, rfl⟩ : ∃ j, n = j + 1 := ⟨n - 1, by omega⟩
    have pd := fd_pm q (show d ≤ 9 by omega)
    have pp := fd_pp q d
    have K := yw_ni38 (post := post) (en := en) (rg := rg) (J := wY_nextIrreducible_7 post a n) hq h1 (by omega) hm h (fun w rm' fo' fa' og' => ih (d + 1) n rm' fo' fa' og' (by omega) (by omega) (by omega) w)
    refine br_f (nI_ge (b := 9) (by omega) (by omega)) ?_
    by_cases z : a < nI ((q + 1) ^ d)
    · refine br_t z ?_
      unfold wY_nextIrreducible_25
      refine br_f (fun w => ?_) ⟨_, K ((q + 1) ^ d + 1) ((q + 1) ^ d) rm fo fa og (by omega) (Nat.le_refl _) (by omega) z hdm⟩
      rw [fw_2] at w
      have := (nI_ltI (by omega) (by omega)).mp (Int32.lt_of_le_of_lt w z)
      omega
    · have a0 : ¬ a < 0 := fun y => z (Int32.lt_of_lt_of_le y (nI_pos' (by omega)))
      obtain ⟨c, hc, rfl⟩ := nI_of a0
      have c1 : (q + 1) ^ d ≤ c := by
        rcases Nat.lt_or_ge c ((q + 1) ^ d) with y | y
        · exact absurd (nI_lt y (by omega)) z
        · exact y
      have cm : c + 1 ≤ m ∨ (q + 1) ^ 9 ≤ m := by
        rcases Nat.lt_or_ge m ((q + 1) ^ 9) with y | y
        · have := (nI_ltI hc (by omega)).mp (hm.2.1 y).2.2
          omega
        · exact Or.inr y
      have d9 := fd_m2 (m := 2 * (q + 1) ^ d - 1) (e := d) hq (by omega)
      have d10 := fd_pm q (show d + 1 ≤ 9 by omega)
      refine br_f z ?_
      unfold wY_nextIrreducible_25
      refine pk_le (2 * (q + 1) ^ d) c (fun w => nm_r (e' := nI ((q + 1) ^ (d + 1))) (by rw [pk_mul, ← fd_ps]) (nm_r (nI_1 d) (ih (d + 1) n rm fo fa og (by omega) (by omega) (by omega) (fd_nts hq hm (by omega) (by omega))))) (fun w => ?_) fw_2 rfl (by omega) hc
      rw [nI_1]
      exact ⟨_, K ((q + 1) ^ d + 1) (c + 1) rm fo fa og (by omega) (by omega) (by omega) (nI_lt (by omega) (by omega)) (by omega)⟩
theorem i_vc_nextIrreducible {k : Nat} {u : SX} {v : SY} (I : i_Rel k u v) (hk : k + 4 ≤ 2049) (v1 : Int32) : wpX_nextIrreducible (fun r => wpY_nextIrreducible (fun r' v' => r' = r ∧ i_Rel (k + 4) u v') v v1) u v1 := by
  obtain ⟨q, pw, rg, rm, fo, fa, og, hq, rfl, rfl, hp, hr⟩ := I
  obtain ⟨m, hm⟩ := fd_nte hq v1
  have lo : (q + 1) ^ 1 ≤ m := by
    rcases Nat.lt_or_ge m ((q + 1) ^ 9) with y | y
    · obtain ⟨_, _, c1, _, _, c6, _⟩ := fd_M0 hq (hm.2.1 y).1
      exact Nat.le_trans (fd_pm q c1) c6
    · exact Nat.le_trans (fd_pm q (by omega)) y
  unfold wpX_nextIrreducible wpY_nextIrreducible
  dsimp only
  refine ⟨9, xw_ni2 hq hp hm ?_ 8 1 9 (by omega) (by omega) (by omega) lo⟩
  have K := yw_ni7 (post := fun r' v' => r' = fd_na q m ∧ i_Rel (k + 4) (nI (q + 1), pw, rg) v') (en := nI ((q + 1) ^ 9)) (rg := rg) hq hm (fun _ _ _ _ => ⟨rfl, fw_rel hq hp hr⟩) 8 1 9 rm fo fa og (by omega) (by omega) (by omega) lo
  rw [Nat.pow_one] at K
  exact ⟨9, K⟩
