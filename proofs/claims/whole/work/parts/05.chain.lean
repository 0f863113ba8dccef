/-! dividing a factor out; Euclid; the chain of least factors -/
def fd_wo (q m : Nat) : Nat → Nat → Nat
  | 0, x => x
  | n + 1, x => if fd_rm q x m = 0 then fd_wo q m n (fd_qt q x m) else x
def fd_mu (q m : Nat) : Nat → Nat → Nat
  | 0, _ => 0
  | n + 1, x => if fd_rm q x m = 0 then fd_mu q m n (fd_qt q x m) + 1 else 0
section
variable {q : Nat}
theorem fd_nd (hq : q = 1 ∨ q = 2 ∨ q = 4) {x m : Nat} (hm : fd_M q m) (h0 : 0 < x) (hx : x < (q + 1) ^ 9) (h : fd_dg q x < fd_dg q m) : fd_rm q x m ≠ 0 := by
  intro z
  have := (fd_cof hq hx h0 (fd_M0 hq hm).1 (fd_M0 hq hm).2.1 z).2.2.1
  omega
theorem fd_woS (hq : q = 1 ∨ q = 2 ∨ q = 4) {m : Nat} (hm : fd_M q m) : ∀ n x, 0 < x → x < (q + 1) ^ 9 → fd_dg q x ≤ n → 0 < fd_wo q m n x ∧ fd_wo q m n x < (q + 1) ^ 9 ∧ fd_rm q (fd_wo q m n x) m ≠ 0 ∧ fd_dg q x = fd_dg q (fd_wo q m n x) + fd_mu q m n x * fd_dg q m ∧ (∀ k, n ≤ k → fd_wo q m k x = fd_wo q m n x ∧ fd_mu q m k x = fd_mu q m n x) ∧ (∀ l, fd_M q l → fd_rm q (fd_wo q m n x) l = 0 → fd_rm q x l = 0) := by
  obtain ⟨m0, m9, m1, _⟩ := fd_M0 hq hm
  intro n
  induction n with
  | zero =>
    intro x h0 hx hd
    have z := fd_nd hq hm h0 hx (by omega)
    refine ⟨h0, hx, z, by simp only [fd_wo, fd_mu]; omega, fun k _ => ?_, fun l _ h => h⟩
    cases k with
    | zero => exact ⟨rfl, rfl⟩
    | succ k =>
      simp only [fd_wo, fd_mu]
      rw [if_neg z, if_neg z]
      exact ⟨rfl, rfl⟩
  | succ n ih =>
    intro x h0 hx hd
    rcases Classical.em (fd_rm q x m = 0) with z | z
    · obtain ⟨c1, c2, c3, _⟩ := fd_cof hq hx h0 m0 m9 z
      obtain ⟨a1, a2, a3, a4, a5, a6⟩ := ih (fd_qt q x m) c1 (fd_qt9 hq hx m0 m9) (by omega)
      have e1 : fd_wo q m (n + 1) x = fd_wo q m n (fd_qt q x m) := by simp only [fd_wo]; rw [if_pos z]
      have e2 : fd_mu q m (n + 1) x = fd_mu q m n (fd_qt q x m) + 1 := by simp only [fd_mu]; rw [if_pos z]
      rw [e1, e2]
      refine ⟨a1, a2, a3, by rw [Nat.succ_mul]; omega, fun k hk => ?_, fun l hl h => fd_tq hq hx m0 m9 (fd_M0 hq hl).1 (fd_M0 hq hl).2.1 z (a6 l hl h)⟩
      cases k with
      | zero => omega
      | succ k =>
        obtain ⟨b1, b2⟩ := a5 k (by omega)
        simp only [fd_wo, fd_mu]
        rw [if_pos z, if_pos z, b1, b2]
        exact ⟨rfl, rfl⟩
    · have e1 : ∀ k, fd_wo q m (k + 1) x = x := by intro k; simp only [fd_wo]; rw [if_neg z]
      have e2 : ∀ k, fd_mu q m (k + 1) x = 0 := by intro k; simp only [fd_mu]; rw [if_neg z]
      rw [e1, e2]
      refine ⟨h0, hx, z, by omega, fun k hk => ?_, fun l _ h => h⟩
      cases k with
      | zero => omega
      | succ k => exact ⟨e1 k, e2 k⟩
theorem fd_woc (hq : q = 1 ∨ q = 2 ∨ q = 4) {m : Nat} (hm : fd_M q m) : ∀ n x y, x < (q + 1) ^ 9 → y < (q + 1) ^ 9 → fd_S q x y → fd_S q (fd_wo q m n x) (fd_wo q m n y) ∧ fd_mu q m n x = fd_mu q m n y := by
  obtain ⟨m0, m9, _⟩ := fd_M0 hq hm
  intro n
  induction n with
  | zero => intro x y _ _ h; exact ⟨h, rfl⟩
  | succ n ih =>
    intro x y hx hy h
    have e := fd_Sdi hq hx hy m0 m9 h
    simp only [fd_wo, fd_mu]
    rcases Classical.em (fd_rm q y m = 0) with z | z
    · rw [if_pos z, if_pos z, if_pos (e.mpr z), if_pos (e.mpr z)]
      obtain ⟨a, b⟩ := ih _ _ (fd_qt9 hq hx m0 m9) (fd_qt9 hq hy m0 m9) (fd_Sd hq hx hy m0 m9 h z).2
      exact ⟨a, by rw [b]⟩
    · rw [if_neg z, if_neg z, if_neg (fun k => z (e.mp k)), if_neg (fun k => z (e.mp k))]
      exact ⟨h, rfl⟩
theorem fd_eu1 (hq : q = 1 ∨ q = 2 ∨ q = 4) {m : Nat} (hI : fd_Ir q m) {b : Nat → Fin (q + 1)} (hb : fs_P b) : ∀ n r, r < n → 0 < r → r < (q + 1) ^ 9 → fd_dg q r < fd_dg q m → (∃ a, fs_P a ∧ fs_m (fd_D q r) b = fs_m a (fd_D q m)) → ∃ c, fs_P c ∧ b = fs_m c (fd_D q m) := by
  obtain ⟨m0, m9, m1, _⟩ := fd_M0 hq hI.1
  intro n
  induction n with
  | zero => intro r h; omega
  | succ n ih =>
    intro r hn r0 r9 hd ⟨a, ha, h⟩
    rcases Nat.eq_zero_or_pos (fd_dg q r) with z | z
    · have k := fd_inv hq r0 r9
      have e : fd_D q r 0 = Fin.ofNat (q + 1) (fd_ld q r) := by
        show Fin.ofNat (q + 1) (r / (q + 1) ^ 0) = _
        unfold fd_ld
        rw [z]
      have u := fd_dgu r0 r9
      rw [z] at u
      refine ⟨fun i => Fin.ofNat (q + 1) (fd_iv q (fd_ld q r)) * a i, fs_Pc _ ha, ?_⟩
      rw [fs_mcl, ← h]
      funext i
      have w : fs_m (fd_D q r) b i = fd_D q r 0 * b i := fs_const b (fd_D q r) (fun i => fd_D0 u (by omega)) i
      show b i = _ * fs_m (fd_D q r) b i
      rw [w, e]
      exact (fs_r9 _ k).symm
    · obtain ⟨d1, d2, d3⟩ := fd_div hq m9 r0 r9
      have s9 := fd_rm9 hq m9 r0 r9
      rcases Nat.eq_zero_or_pos (fd_rm q m r) with y | y
      · exfalso
        obtain ⟨x1, x2⟩ := fd_moM hq r0 r9 z
        have t := fd_self hq r9 (fd_mo9 r) (fd_M0 hq x1).1 (fd_Ss (fd_Smo hq r0 r9))
        have := hI.2 _ x1 (fd_tr hq m9 r0 r9 (fd_M0 hq x1).1 (fd_mo9 r) y t)
        rw [this] at x2
        omega
      · have l1 := fd_ll s9 d1
        have l2 := fd_dg1 y s9
        refine ih (fd_rm q m r) (by have := fd_rml hq m9 r0 r9; omega) y s9 (by omega) ⟨fun i => b i - fs_m (fd_D q (fd_qt q m r)) a i, fs_Ps hb (fs_Pm (fd_P (fd_qt9 hq m9 r0 r9)) ha), ?_⟩
        have hS : fd_D q (fd_rm q m r) = fun i => fd_D q m i - fs_m (fd_D q (fd_qt q m r)) (fd_D q r) i := by
          funext i
          exact (fs_r4 (congrFun d3 i)).symm
        rw [hS, fs_msl, fs_msl, fs_ma, h, ← fs_ma, fs_mc (fd_D q m) b]
theorem fd_eu (hq : q = 1 ∨ q = 2 ∨ q = 4) {m x : Nat} (hI : fd_Ir q m) (hx : x < (q + 1) ^ 9) (hr : fd_rm q x m ≠ 0) {a b : Nat → Fin (q + 1)} (ha : fs_P a) (hb : fs_P b) (h : fs_m (fd_D q x) b = fs_m a (fd_D q m)) : ∃ c, fs_P c ∧ b = fs_m c (fd_D q m) := by
  obtain ⟨m0, m9, m1, _⟩ := fd_M0 hq hI.1
  obtain ⟨d1, d2, d3⟩ := fd_div hq hx m0 m9
  have s9 := fd_rm9 hq hx m0 m9
  have y : 0 < fd_rm q x m := Nat.pos_of_ne_zero hr
  have l1 := fd_ll s9 d1
  have l2 := fd_dg1 y s9
  refine fd_eu1 hq hI hb _ (fd_rm q x m) (Nat.lt_succ_self _) y s9 (by omega) ⟨fun i => a i - fs_m (fd_D q (fd_qt q x m)) b i, fs_Ps ha (fs_Pm (fd_P (fd_qt9 hq hx m0 m9)) hb), ?_⟩
  have hS : fd_D q (fd_rm q x m) = fun i => fd_D q x i - fs_m (fd_D q (fd_qt q x m)) (fd_D q m) i := by
    funext i
    exact (fs_r4 (congrFun d3 i)).symm
  rw [hS, fs_msl, fs_msl, h, fs_ma, fs_ma, fs_mc (fd_D q m) b]
theorem fd_mu1 (hq : q = 1 ∨ q = 2 ∨ q = 4) {m f x y : Nat} (hI : fd_Ir q m) (hf : f < (q + 1) ^ 9) (hr : fd_rm q f m ≠ 0) (hx : x < (q + 1) ^ 9) (hy : y < (q + 1) ^ 9) (h : fd_D q x = fs_m (fd_D q f) (fd_D q y)) : (fd_rm q x m = 0 ↔ fd_rm q y m = 0) ∧ (fd_rm q y m = 0 → fd_D q (fd_qt q x m) = fs_m (fd_D q f) (fd_D q (fd_qt q y m))) := by
  obtain ⟨m0, m9, m1, _⟩ := fd_M0 hq hI.1
  have k : fd_rm q y m = 0 → fd_rm q x m = 0 ∧ fd_D q (fd_qt q x m) = fs_m (fd_D q f) (fd_D q (fd_qt q y m)) := by
    intro z
    have e := fd_dvs hq hy m0 m9 z
    have h2 := h
    rw [e, ← fs_ma] at h2
    obtain ⟨a, b⟩ := fd_unq hq hx m0 m9 (fs_Pm (fd_P hf) (fd_P (fd_qt9 hq hy m0 m9))) h2
    exact ⟨a, b.symm⟩
  refine ⟨⟨fun z => ?_, fun z => (k z).1⟩, fun z => (k z).2⟩
  have e := fd_dvs hq hx m0 m9 z
  obtain ⟨c, c1, c2⟩ := fd_eu hq hI hf hr (fd_P (fd_qt9 hq hx m0 m9)) (fd_P hy) (h.symm.trans e)
  exact (fd_unq hq hy m0 m9 c1 c2).1
theorem fd_mu2 (hq : q = 1 ∨ q = 2 ∨ q = 4) {m f : Nat} (hI : fd_Ir q m) (hf : f < (q + 1) ^ 9) (hr : fd_rm q f m ≠ 0) : ∀ n x y, x < (q + 1) ^ 9 → y < (q + 1) ^ 9 → fd_D q x = fs_m (fd_D q f) (fd_D q y) → fd_mu q m n x = fd_mu q m n y := by
  obtain ⟨m0, m9, m1, _⟩ := fd_M0 hq hI.1
  intro n
  induction n with
  | zero => intro x y _ _ _; rfl
  | succ n ih =>
    intro x y hx hy h
    obtain ⟨a, b⟩ := fd_mu1 hq hI hf hr hx hy h
    simp only [fd_mu]
    rcases Classical.em (fd_rm q y m = 0) with z | z
    · rw [if_pos z, if_pos (a.mpr z), ih _ _ (fd_qt9 hq hx m0 m9) (fd_qt9 hq hy m0 m9) (b z)]
    · rw [if_neg z, if_neg (fun k => z (a.mp k))]
theorem fd_mu3 (hq : q = 1 ∨ q = 2 ∨ q = 4) {m f : Nat} (hI : fd_Ir q m) (hf : fd_M q f) (hr : fd_rm q f m ≠ 0) (k : Nat) : ∀ n x, x < (q + 1) ^ 9 → fd_mu q m k x = fd_mu q m k (fd_wo q f n x) := by
  obtain ⟨f0, f9, f1, _⟩ := fd_M0 hq hf
  intro n
  induction n with
  | zero => intro x _; rfl
  | succ n ih =>
    intro x hx
    simp only [fd_wo]
    rcases Classical.em (fd_rm q x f = 0) with z | z
    · have h9 := fd_qt9 hq hx f0 f9
      have e := fd_dvs hq hx f0 f9 z
      rw [fs_mc] at e
      rw [if_pos z, fd_mu2 hq hI f9 hr k x _ hx h9 e, ih _ h9]
    · rw [if_neg z]
/-- the least factor, 0 if there is none -/
noncomputable def fd_lf (q x : Nat) : Nat := if 1 ≤ fd_dg q x then Classical.epsilon (fd_F q x) else 0
noncomputable def fd_nx (q x : Nat) : Nat := if 1 ≤ fd_dg q x then fd_wo q (fd_lf q x) 8 x else x
noncomputable def fd_it (q : Nat) : Nat → Nat → Nat
  | 0, x => x
  | n + 1, x => fd_it q n (fd_nx q x)
noncomputable def fd_ct (q : Nat) : Nat → Nat → Nat
  | 0, _ => 0
  | n + 1, x => if 1 ≤ fd_dg q x then fd_ct q n (fd_nx q x) + 1 else 0
theorem fd_lfF (hq : q = 1 ∨ q = 2 ∨ q = 4) {x : Nat} (hx : x < (q + 1) ^ 9) (h1 : 1 ≤ fd_dg q x) : fd_F q x (fd_lf q x) := by
  unfold fd_lf
  rw [if_pos h1]
  exact Classical.epsilon_spec (fd_Fe hq hx h1)
theorem fd_lf0 {x : Nat} (h : fd_dg q x = 0) : fd_lf q x = 0 := by
  unfold fd_lf
  rw [if_neg (by omega)]
theorem fd_nx0 {x : Nat} (h : fd_dg q x = 0) : fd_nx q x = x := by
  unfold fd_nx
  rw [if_neg (by omega)]
theorem fd_nx1 {x : Nat} (h : 1 ≤ fd_dg q x) : fd_nx q x = fd_wo q (fd_lf q x) 8 x := by
  unfold fd_nx
  rw [if_pos h]
theorem fd_nxS (hq : q = 1 ∨ q = 2 ∨ q = 4) {x : Nat} (h0 : 0 < x) (hx : x < (q + 1) ^ 9) (h1 : 1 ≤ fd_dg q x) : 0 < fd_nx q x ∧ fd_nx q x < (q + 1) ^ 9 ∧ fd_rm q (fd_nx q x) (fd_lf q x) ≠ 0 ∧ fd_dg q x = fd_dg q (fd_nx q x) + fd_mu q (fd_lf q x) 8 x * fd_dg q (fd_lf q x) ∧ 1 ≤ fd_mu q (fd_lf q x) 8 x ∧ fd_dg q (fd_nx q x) < fd_dg q x ∧ ∀ l, fd_M q l → fd_rm q (fd_nx q x) l = 0 → fd_rm q x l = 0 := by
  obtain ⟨hM, hr, hl⟩ := fd_lfF hq hx h1
  obtain ⟨m0, m9, m1, _⟩ := fd_M0 hq hM
  obtain ⟨a1, a2, a3, a4, a5, a6⟩ := fd_woS hq hM 8 x h0 hx (fd_dg8 hx)
  rw [fd_nx1 h1]
  have c : 1 ≤ fd_mu q (fd_lf q x) 8 x := by
    show 1 ≤ if fd_rm q x (fd_lf q x) = 0 then fd_mu q (fd_lf q x) 7 (fd_qt q x (fd_lf q x)) + 1 else 0
    rw [if_pos hr]
    omega
  have d : 1 ≤ fd_mu q (fd_lf q x) 8 x * fd_dg q (fd_lf q x) := Nat.mul_pos c m1
  exact ⟨a1, a2, a3, a4, c, by omega, a6⟩
theorem fd_nxb (hq : q = 1 ∨ q = 2 ∨ q = 4) {x : Nat} (h0 : 0 < x) (hx : x < (q + 1) ^ 9) : 0 < fd_nx q x ∧ fd_nx q x < (q + 1) ^ 9 := by
  rcases Nat.eq_zero_or_pos (fd_dg q x) with z | z
  · rw [fd_nx0 z]; exact ⟨h0, hx⟩
  · have := fd_nxS hq h0 hx z
    exact ⟨this.1, this.2.1⟩
theorem fd_itb (hq : q = 1 ∨ q = 2 ∨ q = 4) : ∀ i x, 0 < x → x < (q + 1) ^ 9 → 0 < fd_it q i x ∧ fd_it q i x < (q + 1) ^ 9 := by
  intro i
  induction i with
  | zero => intro x h0 hx; exact ⟨h0, hx⟩
  | succ i ih => intro x h0 hx; exact ih _ (fd_nxb hq h0 hx).1 (fd_nxb hq h0 hx).2
theorem fd_it0 {x : Nat} (h : fd_dg q x = 0) : ∀ i, fd_it q i x = x := by
  intro i
  induction i with
  | zero => rfl
  | succ i ih =>
    show fd_it q i (fd_nx q x) = x
    rw [fd_nx0 h, ih]
theorem fd_its (i : Nat) : ∀ x, fd_it q (i + 1) x = fd_nx q (fd_it q i x) := by
  induction i with
  | zero => intro x; rfl
  | succ i ih => intro x; exact ih (fd_nx q x)
theorem fd_ctS (hq : q = 1 ∨ q = 2 ∨ q = 4) : ∀ n x, 0 < x → x < (q + 1) ^ 9 → fd_dg q x ≤ n → fd_ct q n x ≤ fd_dg q x ∧ ∀ i, 1 ≤ fd_dg q (fd_it q i x) ↔ i < fd_ct q n x := by
  intro n
  induction n with
  | zero =>
    intro x h0 hx hd
    refine ⟨Nat.zero_le _, fun i => ?_⟩
    rw [fd_it0 (by omega) i]
    show 1 ≤ fd_dg q x ↔ i < 0
    omega
  | succ n ih =>
    intro x h0 hx hd
    rcases Nat.eq_zero_or_pos (fd_dg q x) with z | z
    · have e : fd_ct q (n + 1) x = 0 := by simp only [fd_ct]; rw [if_neg (by omega)]
      rw [e]
      refine ⟨Nat.zero_le _, fun i => ?_⟩
      rw [fd_it0 z i]
      omega
    · have e : fd_ct q (n + 1) x = fd_ct q n (fd_nx q x) + 1 := by simp only [fd_ct]; rw [if_pos (show 1 ≤ fd_dg q x from z)]
      obtain ⟨a1, a2, _, _, _, a6, _⟩ := fd_nxS hq h0 hx z
      obtain ⟨b1, b2⟩ := ih (fd_nx q x) a1 a2 (by omega)
      rw [e]
      refine ⟨by omega, fun i => ?_⟩
      cases i with
      | zero => exact ⟨fun _ => by omega, fun _ => z⟩
      | succ i =>
        have := b2 i
        show 1 ≤ fd_dg q (fd_it q i (fd_nx q x)) ↔ _
        omega
theorem fd_itd (hq : q = 1 ∨ q = 2 ∨ q = 4) {l : Nat} (hl : fd_M q l) : ∀ i x, 0 < x → x < (q + 1) ^ 9 → fd_rm q (fd_it q i x) l = 0 → fd_rm q x l = 0 := by
  intro i
  induction i with
  | zero => intro x _ _ h; exact h
  | succ i ih =>
    intro x h0 hx h
    have k := ih (fd_nx q x) (fd_nxb hq h0 hx).1 (fd_nxb hq h0 hx).2 h
    rcases Nat.eq_zero_or_pos (fd_dg q x) with z | z
    · rw [fd_nx0 z] at k; exact k
    · exact (fd_nxS hq h0 hx z).2.2.2.2.2.2 l hl k
theorem fd_mui (hq : q = 1 ∨ q = 2 ∨ q = 4) {m : Nat} (hI : fd_Ir q m) (k : Nat) : ∀ i x, 0 < x → x < (q + 1) ^ 9 → fd_rm q (fd_it q i x) m = 0 → fd_mu q m k x = fd_mu q m k (fd_it q i x) := by
  intro i
  induction i with
  | zero => intro x _ _ _; rfl
  | succ i ih =>
    intro x h0 hx h
    obtain ⟨n0, n9⟩ := fd_nxb hq h0 hx
    have e := ih (fd_nx q x) n0 n9 h
    show fd_mu q m k x = fd_mu q m k (fd_it q i (fd_nx q x))
    rw [← e]
    rcases Nat.eq_zero_or_pos (fd_dg q x) with z | z
    · rw [fd_nx0 z]
    · have d := fd_itd hq hI.1 i (fd_nx q x) n0 n9 h
      have s := fd_nxS hq h0 hx z
      have F := fd_lfF hq hx z
      have ne : fd_rm q (fd_lf q x) m ≠ 0 := by
        intro y
        have := (fd_FI hq hx F).2 m hI.1 y
        rw [this] at d
        exact s.2.2.1 d
      rw [fd_nx1 z]
      exact fd_mu3 hq hI F.1 ne k 8 x hx
theorem fd_lfm (hq : q = 1 ∨ q = 2 ∨ q = 4) {x : Nat} (h0 : 0 < x) (hx : x < (q + 1) ^ 9) (h1 : 1 ≤ fd_dg q x) (h2 : 1 ≤ fd_dg q (fd_nx q x)) : fd_lf q x ≤ fd_lf q (fd_nx q x) := by
  have F := fd_lfF hq hx h1
  have s := fd_nxS hq h0 hx h1
  have G := fd_lfF hq s.2.1 h2
  rcases Nat.lt_or_ge (fd_lf q (fd_nx q x)) (fd_lf q x) with y | y
  · exact absurd (s.2.2.2.2.2.2 _ G.1 G.2.1) (F.2.2 _ G.1 y)
  · exact y
/-- beside a coefficient the chain is the same -/
theorem fd_Sdg {x y : Nat} (hx : x < (q + 1) ^ 9) (hy : y < (q + 1) ^ 9) (h : fd_S q x y) (h0 : 0 < x) : fd_dg q x = fd_dg q y := by
  unfold fd_dg
  rw [fd_Se hx hy h h0]
theorem fd_Slf (hq : q = 1 ∨ q = 2 ∨ q = 4) {x y : Nat} (hx : x < (q + 1) ^ 9) (hy : y < (q + 1) ^ 9) (h : fd_S q x y) (h0 : 0 < x) : fd_lf q x = fd_lf q y := by
  have e := fd_Sdg hx hy h h0
  rcases Nat.eq_zero_or_pos (fd_dg q x) with z | z
  · rw [fd_lf0 z, fd_lf0 (by omega)]
  · exact fd_Fu (fd_lfF hq hx z) (fd_FS hq hx hy h (fd_lfF hq hy (by omega)))
theorem fd_Snx (hq : q = 1 ∨ q = 2 ∨ q = 4) {x y : Nat} (hx : x < (q + 1) ^ 9) (hy : y < (q + 1) ^ 9) (h : fd_S q x y) (h0 : 0 < x) : fd_S q (fd_nx q x) (fd_nx q y) := by
  have e := fd_Sdg hx hy h h0
  rcases Nat.eq_zero_or_pos (fd_dg q x) with z | z
  · rw [fd_nx0 z, fd_nx0 (by omega)]; exact h
  · rw [fd_nx1 z, fd_nx1 (by omega), fd_Slf hq hx hy h h0]
    exact (fd_woc hq (fd_lfF hq hy (by omega)).1 8 x y hx hy h).1
theorem fd_Sit (hq : q = 1 ∨ q = 2 ∨ q = 4) : ∀ i x y, x < (q + 1) ^ 9 → y < (q + 1) ^ 9 → fd_S q x y → 0 < x → fd_S q (fd_it q i x) (fd_it q i y) := by
  intro i
  induction i with
  | zero => intro x y _ _ h _; exact h
  | succ i ih =>
    intro x y hx hy h h0
    have y0 := fd_S0 hx h h0
    exact ih _ _ (fd_nxb hq h0 hx).2 (fd_nxb hq y0 hy).2 (fd_Snx hq hx hy h h0) (fd_nxb hq h0 hx).1
theorem fd_Sct (hq : q = 1 ∨ q = 2 ∨ q = 4) : ∀ n x y, x < (q + 1) ^ 9 → y < (q + 1) ^ 9 → fd_S q x y → 0 < x → fd_ct q n x = fd_ct q n y := by
  intro n
  induction n with
  | zero => intro x y _ _ _ _; rfl
  | succ n ih =>
    intro x y hx hy h h0
    have y0 := fd_S0 hx h h0
    have e := fd_Sdg hx hy h h0
    simp only [fd_ct]
    rw [e, ih _ _ (fd_nxb hq h0 hx).2 (fd_nxb hq y0 hy).2 (fd_Snx hq hx hy h h0) (fd_nxb hq h0 hx).1]
end
