section
/-! rows pasted from kit/rows/PURE-ROWS -/
theorem pk_us {f : Nat → Int32} {k : Nat} {x : Int32} : upd f k x k = x := if_pos rfl
theorem pk_un {f : Nat → Int32} {k j : Nat} {x : Int32} (h : j ≠ k) : upd f k x j = f j := if_neg h
theorem pk_sub {a b : Nat} (h : b ≤ a) : nI a - nI b = nI (a - b) := by
  obtain ⟨c, rfl⟩ : ∃ c, a = c + b := ⟨a - b, by omega⟩
  rw [← nI_add, Int32.add_sub_cancel, Nat.add_sub_cancel]
theorem pk_m1 (n : Nat) : nI (n + 1) + (-1) = nI n := by
  rw [← nI_1, Int32.add_assoc, show (1 : Int32) + (-1) = 0 from rfl, Int32.add_zero]
theorem pk_mul (a b : Nat) : nI a * nI b = nI (a * b) := (Int32.ofNat_mul a b).symm
theorem pk_div {a d : Nat} (ha : a < 2 ^ 31) (h0 : 0 < d) (hd : d < 2 ^ 31) : nI a / nI d = nI (a / d) := by
  apply Int32.toInt_inj.mp
  rw [lg_idiv_nonneg (by rw [nI_toInt ha]; omega) (by rw [nI_toInt hd]; omega), nI_toInt ha, nI_toInt hd, nI_toInt (Nat.lt_of_le_of_lt (Nat.div_le_self a d) ha)]
  first | rfl | exact (Int.natCast_ediv _ _).symm
theorem pk_rem {a d : Nat} (ha : a < 2 ^ 31) (h0 : 0 < d) (hd : d < 2 ^ 31) : nI a - nI a / nI d * nI d = nI (a % d) := by
  rw [pk_div ha h0 hd, pk_mul, pk_sub (Nat.div_mul_le_self a d)]
  exact congrArg nI (by have := Nat.div_add_mod' a d; omega)
theorem pk_sub_toInt {a b : Nat} (ha : a < 2 ^ 30) (hb : b < 2 ^ 30) : (nI a - nI b).toInt = (a : Int) - b := by
  rw [Int32.toInt_sub, nI_toInt (by omega), nI_toInt (by omega)]
  exact Int.bmod_eq_of_le (by omega) (by omega)
theorem pk_sneg {a b : Nat} (hb : b < 2 ^ 30) (h : a < b) : nI a - nI b < 0 := by
  rw [Int32.lt_iff_toInt_lt, pk_sub_toInt (by omega) hb, show (0 : Int32).toInt = 0 from by decide]
  omega
theorem pk_ix (x : Int32) {n : Nat} (hn : n < 2 ^ 31) : x < 0 ∨ nI n ≤ x ∨ ∃ j : Nat, j < n ∧ x = nI j := by
  by_cases h : x < 0
  · exact Or.inl h
  · obtain ⟨j, hj, rfl⟩ := nI_of h
    by_cases h2 : j < n
    · exact Or.inr (Or.inr ⟨j, h2, rfl⟩)
    · exact Or.inr (Or.inl (nI_le (by omega) hj))
theorem pk_le {x y : Int32} {A B : Prop} (a b : Nat) (f : a ≤ b → A) (g : b < a → B) (hx : x = nI a := by rfl) (hy : y = nI b := by rfl) (ha : a < 2 ^ 31 := by omega) (hb : b < 2 ^ 31 := by omega) : (x ≤ y → A) ∧ (¬ x ≤ y → B) := by
  subst hx hy
  rw [nI_leI ha hb]
  exact ⟨f, fun z => g (by omega)⟩
theorem pk_lt {x y : Int32} {A B : Prop} (a b : Nat) (f : a < b → A) (g : b ≤ a → B) (hx : x = nI a := by rfl) (hy : y = nI b := by rfl) (ha : a < 2 ^ 31 := by omega) (hb : b < 2 ^ 31 := by omega) : (x < y → A) ∧ (¬ x < y → B) := by
  subst hx hy
  rw [nI_ltI ha hb]
  exact ⟨f, fun z => g (by omega)⟩
theorem pk_eq {x y : Int32} {A B : Prop} (a b : Nat) (f : a = b → A) (g : a ≠ b → B) (hx : x = nI a := by rfl) (hy : y = nI b := by rfl) (ha : a < 2 ^ 31 := by omega) (hb : b < 2 ^ 31 := by omega) : (x = y → A) ∧ (¬ x = y → B) := by
  subst hx hy
  rw [nI_eq ha hb]
  exact ⟨f, g⟩
theorem pk_in {x : Int32} (n N : Nat) (h : n < N) (hx : x = nI n := by rfl) (hN : N < 2 ^ 31 := by omega) : vp_in x N := by
  subst hx
  exact vp_in_nI h hN
theorem pk_cl {x : Int32} (n : Nat) (hx : x = nI n := by rfl) (h : n < 2 ^ 31 := by omega) : x.toNatClampNeg = n := by
  subst hx
  exact nI_clamp h
theorem pk_loop {σ : Type} (W : Nat → Nat → σ → Prop) (I : Nat → σ → Prop) (e i0 : Nat) (s : σ) (hi : i0 ≤ e) (h0 : I i0 s) (hx : ∀ n s, I e s → W (n + 1) e s)
    (hs : ∀ n i s, i < e → I i s → (∀ s', I (i + 1) s' → W n (i + 1) s') → W (n + 1) i s) : ∃ n, W n i0 s :=
  ⟨e + 1, loop_i W I e hx hs (e + 1) i0 s hi (by omega) h0⟩
theorem pk_loopD {σ : Type} (W : Nat → Nat → σ → Prop) (I : Nat → σ → Prop) (hx : ∀ n s, I 0 s → W (n + 1) 0 s)
    (hs : ∀ n i s, I (i + 1) s → (∀ s', I i s' → W n i s') → W (n + 1) (i + 1) s) : ∀ (e : Nat) (s : σ), I e s → W (e + 1) e s := by
  intro e
  induction e with
  | zero => exact fun s h => hx 0 s h
  | succ e ih => exact fun s h => hs (e + 1) e s h (fun s' h' => ih s' h')
theorem pk_least (P : Nat → Prop) (h : ∃ k, P k) : ∃ k, P k ∧ ∀ j, j < k → ¬ P j := by
  obtain ⟨k, hk⟩ := h
  induction k using Nat.strongRecOn with
  | ind k ih =>
    by_cases e : ∃ j, j < k ∧ P j
    · obtain ⟨j, hj, pj⟩ := e
      exact ih j hj pj
    · exact ⟨k, hk, fun j hj pj => e ⟨j, hj, pj⟩⟩
theorem ek_if {c d A B : Prop} (e : c ↔ d) (f : d → A) (g : ¬ d → B) : (c → A) ∧ (¬ c → B) :=
  ⟨fun z => f (e.mp z), fun z => g (fun y => z (e.mpr y))⟩
theorem ek_v {α : Sort _} {P : α → Prop} {a b : α} (e : a = b) (h : P b) : P a := e ▸ h
theorem sb_m1 {p : Nat} (h : 0 < p) : nI p + (-1) = nI (p - 1) := by
  obtain ⟨q, rfl⟩ : ∃ q, p = q + 1 := ⟨p - 1, by omega⟩
  exact pk_m1 q
end
section
/-! series over a commutative ring: products, degrees, cancelling -/
def fs_cv {K : Type} [Lean.Grind.CommRing K] : Nat → (Nat → K) → (Nat → K) → K
  | 0, f, g => f 0 * g 0
  | n + 1, f, g => f 0 * g (n + 1) + fs_cv n (fun i => f (i + 1)) g
theorem fs_addl {K : Type} [Lean.Grind.CommRing K] (g : Nat → K) : ∀ (n : Nat) (f f' : Nat → K), fs_cv n (fun i => f i + f' i) g = fs_cv n f g + fs_cv n f' g := by
  intro n
  induction n with
  | zero => intro f f'; simp only [fs_cv]; grind
  | succ n ih =>
    intro f f'
    simp only [fs_cv]
    rw [ih (fun i => f (i + 1)) (fun i => f' (i + 1))]
    grind
theorem fs_mull {K : Type} [Lean.Grind.CommRing K] (c : K) (g : Nat → K) : ∀ (n : Nat) (f : Nat → K), fs_cv n (fun i => c * f i) g = c * fs_cv n f g := by
  intro n
  induction n with
  | zero => intro f; simp only [fs_cv]; grind
  | succ n ih =>
    intro f
    simp only [fs_cv]
    rw [ih (fun i => f (i + 1))]
    grind
theorem fs_zl {K : Type} [Lean.Grind.CommRing K] (g : Nat → K) : ∀ (n : Nat) (f : Nat → K), (∀ i, f i = 0) → fs_cv n f g = 0 := by
  intro n
  induction n with
  | zero => intro f h; simp only [fs_cv]; rw [h 0]; grind
  | succ n ih =>
    intro f h
    simp only [fs_cv]
    rw [ih (fun i => f (i + 1)) (fun i => h (i + 1)), h 0]
    grind
theorem fs_sym {K : Type} [Lean.Grind.CommRing K] (g : Nat → K) : ∀ (n : Nat) (f : Nat → K), fs_cv (n + 1) f g = fs_cv n f (fun i => g (i + 1)) + f (n + 1) * g 0 := by
  intro n
  induction n with
  | zero => intro f; simp only [fs_cv]
  | succ n ih =>
    intro f
    have e1 : fs_cv (n + 1 + 1) f g = f 0 * g (n + 1 + 1) + fs_cv (n + 1) (fun i => f (i + 1)) g := rfl
    have e2 : fs_cv (n + 1) f (fun i => g (i + 1)) = f 0 * g (n + 1 + 1) + fs_cv n (fun i => f (i + 1)) (fun i => g (i + 1)) := rfl
    rw [e1, e2, ih (fun i => f (i + 1))]
    grind
theorem fs_comm {K : Type} [Lean.Grind.CommRing K] : ∀ (n : Nat) (f g : Nat → K), fs_cv n f g = fs_cv n g f := by
  intro n
  induction n with
  | zero => intro f g; simp only [fs_cv]; grind
  | succ n ih =>
    intro f g
    have e1 : fs_cv (n + 1) f g = f 0 * g (n + 1) + fs_cv n (fun i => f (i + 1)) g := rfl
    rw [e1, fs_sym f n g, ih (fun i => f (i + 1)) g]
    grind
theorem fs_assoc {K : Type} [Lean.Grind.CommRing K] (g h : Nat → K) : ∀ (n : Nat) (f : Nat → K), fs_cv n (fun m => fs_cv m f g) h = fs_cv n f (fun m => fs_cv m g h) := by
  intro n
  induction n with
  | zero => intro f; simp only [fs_cv]; grind
  | succ n ih =>
    intro f
    have e1 : fs_cv (n + 1) (fun m => fs_cv m f g) h = f 0 * g 0 * h (n + 1) + fs_cv n (fun m => f 0 * g (m + 1) + fs_cv m (fun i => f (i + 1)) g) h := rfl
    have e2 : fs_cv (n + 1) f (fun m => fs_cv m g h) = f 0 * (g 0 * h (n + 1) + fs_cv n (fun i => g (i + 1)) h) + fs_cv n (fun i => f (i + 1)) (fun m => fs_cv m g h) := rfl
    rw [e1, e2, fs_addl h n (fun m => f 0 * g (m + 1)) (fun m => fs_cv m (fun i => f (i + 1)) g), fs_mull (f 0) h n (fun m => g (m + 1)), ih (fun i => f (i + 1))]
    grind
/-- the product -/
def fs_m {K : Type} [Lean.Grind.CommRing K] (f g : Nat → K) : Nat → K := fun n => fs_cv n f g
theorem fs_mc {K : Type} [Lean.Grind.CommRing K] (f g : Nat → K) : fs_m f g = fs_m g f := funext fun n => fs_comm n f g
theorem fs_ma {K : Type} [Lean.Grind.CommRing K] (f g h : Nat → K) : fs_m (fs_m f g) h = fs_m f (fs_m g h) := funext fun n => fs_assoc g h n f
theorem fs_mdl {K : Type} [Lean.Grind.CommRing K] (f f' g : Nat → K) : fs_m (fun i => f i + f' i) g = fun i => fs_m f g i + fs_m f' g i := funext fun n => fs_addl g n f f'
theorem fs_mcl {K : Type} [Lean.Grind.CommRing K] (c : K) (f g : Nat → K) : fs_m (fun i => c * f i) g = fun i => c * fs_m f g i := funext fun n => fs_mull c g n f
theorem fs_mcr {K : Type} [Lean.Grind.CommRing K] (c : K) (f g : Nat → K) : fs_m g (fun i => c * f i) = fun i => c * fs_m g f i := by
  rw [fs_mc, fs_mcl, fs_mc f g]
theorem fs_msl {K : Type} [Lean.Grind.CommRing K] (f f' g : Nat → K) : fs_m (fun i => f i - f' i) g = fun i => fs_m f g i - fs_m f' g i := by
  have e : (fun i => f i - f' i) = (fun i => f i + (-1) * f' i) := funext fun i => by grind
  rw [e, fs_mdl f (fun i => (-1) * f' i) g, fs_mcl (-1) f' g]
  funext i
  grind
/-- a single term -/
def fs_t {K : Type} [Lean.Grind.CommRing K] (i : Nat) (c : K) : Nat → K := fun n => if n = i then c else 0
/-- a shift -/
def fs_sh {K : Type} [Lean.Grind.CommRing K] (i : Nat) (f : Nat → K) : Nat → K := fun n => if n < i then 0 else f (n - i)
theorem fs_const {K : Type} [Lean.Grind.CommRing K] (g : Nat → K) (f : Nat → K) (hf : ∀ i, f (i + 1) = 0) : ∀ n, fs_cv n f g = f 0 * g n := by
  intro n
  cases n with
  | zero => rfl
  | succ n =>
    have e1 : fs_cv (n + 1) f g = f 0 * g (n + 1) + fs_cv n (fun i => f (i + 1)) g := rfl
    rw [e1, fs_zl g n (fun i => f (i + 1)) hf]
    grind
theorem fs_cvt {K : Type} [Lean.Grind.CommRing K] (c : K) (g : Nat → K) : ∀ i n, fs_cv n (fs_t i c) g = c * fs_sh i g n := by
  intro i
  induction i with
  | zero =>
    intro n
    rw [fs_const g (fs_t 0 c) (fun i => by simp [fs_t]) n]
    simp [fs_t, fs_sh]
  | succ i ih =>
    intro n
    cases n with
    | zero =>
      have e0 : fs_cv 0 (fs_t (i + 1) c) g = fs_t (i + 1) c 0 * g 0 := rfl
      have e3 : fs_t (i + 1) c 0 = 0 := by simp [fs_t]
      have e4 : fs_sh (i + 1) g 0 = 0 := by simp [fs_sh]
      rw [e0, e3, e4]
      grind
    | succ n =>
      have e1 : fs_cv (n + 1) (fs_t (i + 1) c) g = fs_t (i + 1) c 0 * g (n + 1) + fs_cv n (fun j => fs_t (i + 1) c (j + 1)) g := rfl
      have e2 : (fun j => fs_t (i + 1) c (j + 1)) = fs_t i c := funext fun j => by simp [fs_t]
      have e3 : fs_t (i + 1) c 0 = 0 := by simp [fs_t]
      have e4 : fs_sh (i + 1) g (n + 1) = fs_sh i g n := by simp [fs_sh]
      rw [e1, e2, ih n, e3, e4]
      grind
theorem fs_mt {K : Type} [Lean.Grind.CommRing K] (i : Nat) (c : K) (g : Nat → K) : fs_m (fs_t i c) g = fun n => c * fs_sh i g n := funext fun n => fs_cvt c g i n
theorem fs_deg {K : Type} [Lean.Grind.CommRing K] (g : Nat → K) (e : Nat) (hg : ∀ i, e < i → g i = 0) : ∀ (d : Nat) (f : Nat → K), (∀ i, d < i → f i = 0) → fs_cv (d + e) f g = f d * g e ∧ ∀ n, d + e < n → fs_cv n f g = 0 := by
  intro d
  induction d with
  | zero =>
    intro f hf
    have h := fs_const g f (fun i => hf (i + 1) (by omega))
    refine ⟨by rw [h (0 + e), Nat.zero_add], fun n hn => ?_⟩
    rw [h n, hg n (by omega)]
    grind
  | succ d ih =>
    intro f hf
    obtain ⟨h1, h2⟩ := ih (fun i => f (i + 1)) (fun i hi => hf (i + 1) (by omega))
    constructor
    · have e0 : d + 1 + e = (d + e) + 1 := by omega
      have e1 : fs_cv ((d + e) + 1) f g = f 0 * g (d + e + 1) + fs_cv (d + e) (fun i => f (i + 1)) g := rfl
      rw [e0, e1, h1, hg (d + e + 1) (by omega)]
      grind
    · intro n hn
      cases n with
      | zero => omega
      | succ n =>
        have e1 : fs_cv (n + 1) f g = f 0 * g (n + 1) + fs_cv n (fun i => f (i + 1)) g := rfl
        rw [e1, h2 n (by omega), hg (n + 1) (by omega)]
        grind
/-- from some place on all is 0 -/
def fs_P {K : Type} [Lean.Grind.CommRing K] (f : Nat → K) : Prop := ∃ n, ∀ i, n ≤ i → f i = 0
theorem fs_Pm {K : Type} [Lean.Grind.CommRing K] {f g : Nat → K} (hf : fs_P f) (hg : fs_P g) : fs_P (fs_m f g) := by
  obtain ⟨n, hn⟩ := hf
  obtain ⟨m, hm⟩ := hg
  refine ⟨n + m + 1, fun i hi => ?_⟩
  exact (fs_deg g m (fun i hi => hm i (by omega)) n f (fun i hi => hn i (by omega))).2 i (by omega)
theorem fs_Ps {K : Type} [Lean.Grind.CommRing K] {f g : Nat → K} (hf : fs_P f) (hg : fs_P g) : fs_P (fun i => f i - g i) := by
  obtain ⟨n, hn⟩ := hf
  obtain ⟨m, hm⟩ := hg
  refine ⟨n + m, fun i hi => ?_⟩
  show f i - g i = 0
  rw [hn i (by omega), hm i (by omega)]
  grind
theorem fs_Pc {K : Type} [Lean.Grind.CommRing K] {f : Nat → K} (c : K) (hf : fs_P f) : fs_P (fun i => c * f i) := by
  obtain ⟨n, hn⟩ := hf
  refine ⟨n, fun i hi => ?_⟩
  show c * f i = 0
  rw [hn i hi]
  grind
theorem fs_top {K : Type} [Lean.Grind.CommRing K] (f : Nat → K) : ∀ n, (∀ i, n ≤ i → f i = 0) → (∀ i, f i = 0) ∨ ∃ d, d < n ∧ f d ≠ 0 ∧ ∀ i, d < i → f i = 0 := by
  intro n
  induction n with
  | zero => intro h; exact Or.inl fun i => h i (by omega)
  | succ n ih =>
    intro h
    rcases Classical.em (f n = 0) with z | z
    · rcases ih (fun i hi => if e : i = n then by rw [e]; exact z else h i (by omega)) with r | ⟨d, h1, h2, h3⟩
      · exact Or.inl r
      · exact Or.inr ⟨d, by omega, h2, h3⟩
    · exact Or.inr ⟨n, by omega, z, fun i hi => h i (by omega)⟩
theorem fs_can {K : Type} [Lean.Grind.CommRing K] (nz : ∀ a b : K, a * b = 0 → a = 0 ∨ b = 0) {a m : Nat → K} {d : Nat} (ha : fs_P a) (hd : m d ≠ 0) (hm : ∀ i, d < i → m i = 0) (h : ∀ n, d ≤ n → fs_m a m n = 0) : ∀ i, a i = 0 := by
  obtain ⟨n, hn⟩ := ha
  rcases fs_top a n hn with r | ⟨e, h1, h2, h3⟩
  · exact r
  · exfalso
    have x := (fs_deg m d hm e a h3).1
    have y : fs_cv (e + d) a m = 0 := h (e + d) (by omega)
    rw [y] at x
    rcases nz _ _ x.symm with z | z
    · exact h2 z
    · exact hd z
theorem fs_r1 {K : Type} [Lean.Grind.CommRing K] {R N Y C V : K} (h1 : C + N = 0) (h2 : C = R * V) (h3 : Y * V = 1) : R + N * Y = 0 := by
  have e : N = - (R * V) := by grind
  rw [e]
  grind
theorem fs_r2 {K : Type} [Lean.Grind.CommRing K] {R N Y : K} (h1 : R = 0) (h2 : Y = 0) : R + N * Y = 0 := by
  rw [h1, h2]
  grind
theorem fs_r3 {K : Type} [Lean.Grind.CommRing K] {A R N S C : K} (h : C + N = 0) : A + R = A + C * S + (R + N * S) := by
  have e : N = - C := by grind
  rw [e]
  grind
theorem fs_r4 {K : Type} [Lean.Grind.CommRing K] {A B C : K} (h : A = B + C) : A - B = C := by grind
theorem fs_r5 {K : Type} [Lean.Grind.CommRing K] {A B : K} (h : A - B = 0) : A = B := by grind
theorem fs_r6 {K : Type} [Lean.Grind.CommRing K] {A B : K} (h : A = 0) : B = A + B := by grind
theorem fs_r7 {K : Type} [Lean.Grind.CommRing K] {A B : K} (h : B = 0) : A + B = A := by grind
theorem fs_r8 {K : Type} [Lean.Grind.CommRing K] (A : K) : 0 * A = 0 := by grind
theorem fs_r9 {K : Type} [Lean.Grind.CommRing K] {c c' : K} (A : K) (h : c * c' = 1) : c' * (c * A) = A := by grind
theorem fs_ra {K : Type} [Lean.Grind.CommRing K] (A B C : K) : A * (B * C) = (A * B) * C := by grind
theorem fs_rb {K : Type} [Lean.Grind.CommRing K] {A B : K} (h : A = 0) : A + B = B := by grind
theorem fs_rc {K : Type} [Lean.Grind.CommRing K] (A : K) : 1 * A = A := by grind
theorem fs_rz {K : Type} [Lean.Grind.CommRing K] (c : K) : c * 0 = 0 := by grind
theorem fs_rd {K : Type} [Lean.Grind.CommRing K] {a b : K} (h : a * b = 1) : b * a = 1 := by grind
theorem fs_re {K : Type} [Lean.Grind.CommRing K] {a b : K} (h : 1 = a * b) (hb : b = 1) : a = 1 := by grind
end
section
/-! codes: a number's digits to the base q + 1 as a series over Fin (q + 1) -/
def fd_D (q x : Nat) : Nat → Fin (q + 1) := fun i => Fin.ofNat (q + 1) (x / (q + 1) ^ i)
theorem fd_Dv (q x i : Nat) : (fd_D q x i).val = x / (q + 1) ^ i % (q + 1) := rfl
theorem fd_nz {q : Nat} (hq : q = 1 ∨ q = 2 ∨ q = 4) : ∀ a b : Fin (q + 1), a * b = 0 → a = 0 ∨ b = 0 := by
  rcases hq with rfl | rfl | rfl <;> decide
theorem fd_pp (q n : Nat) : 0 < (q + 1) ^ n := Nat.pow_pos (by omega)
theorem fd_pm (q : Nat) {a b : Nat} (h : a ≤ b) : (q + 1) ^ a ≤ (q + 1) ^ b := Nat.pow_le_pow_right (by omega) h
theorem fd_ps (q n : Nat) : (q + 1) ^ (n + 1) = (q + 1) ^ n * (q + 1) := Nat.pow_succ (q + 1) n
theorem fd_dd1 (q x i : Nat) : x / (q + 1) / (q + 1) ^ i = x / (q + 1) ^ (i + 1) := by
  rw [Nat.div_div_eq_div_mul, fd_ps, Nat.mul_comm]
theorem fd_ext (q : Nat) : ∀ n x y, x < (q + 1) ^ n → y < (q + 1) ^ n → (∀ i, i < n → x / (q + 1) ^ i % (q + 1) = y / (q + 1) ^ i % (q + 1)) → x = y := by
  intro n
  induction n with
  | zero => intro x y hx hy _; rw [Nat.pow_zero] at hx hy; omega
  | succ n ih =>
    intro x y hx hy h
    have h0 := h 0 (by omega)
    rw [Nat.pow_zero, Nat.div_one, Nat.div_one] at h0
    rw [fd_ps] at hx hy
    have e : x / (q + 1) = y / (q + 1) := by
      refine ih _ _ ((Nat.div_lt_iff_lt_mul (by omega)).mpr hx) ((Nat.div_lt_iff_lt_mul (by omega)).mpr hy) (fun i hi => ?_)
      rw [fd_dd1, fd_dd1]
      exact h (i + 1) (by omega)
    rw [← Nat.div_add_mod x (q + 1), ← Nat.div_add_mod y (q + 1), e, h0]
theorem fd_low {q x n i : Nat} (h : x < (q + 1) ^ n) (hi : n ≤ i) : x / (q + 1) ^ i = 0 := Nat.div_eq_of_lt (Nat.lt_of_lt_of_le h (fd_pm q hi))
theorem fd_D0 {q x n i : Nat} (h : x < (q + 1) ^ n) (hi : n ≤ i) : fd_D q x i = 0 := by
  apply Fin.ext
  rw [fd_Dv, fd_low h hi, Nat.zero_mod]
  rfl
theorem fd_Dz (q i : Nat) : fd_D q 0 i = 0 := by
  apply Fin.ext
  rw [fd_Dv, Nat.zero_div, Nat.zero_mod]
  rfl
theorem fd_inj {q n x y : Nat} (hx : x < (q + 1) ^ n) (hy : y < (q + 1) ^ n) (h : fd_D q x = fd_D q y) : x = y := by
  refine fd_ext q n x y hx hy (fun i _ => ?_)
  rw [← fd_Dv, ← fd_Dv, h]
theorem fd_lo {q a b n i : Nat} (hi : i < n) : (a + b * (q + 1) ^ n) / (q + 1) ^ i % (q + 1) = a / (q + 1) ^ i % (q + 1) := by
  have e : (q + 1) ^ n = (q + 1) ^ (n - i - 1) * (q + 1) * (q + 1) ^ i := by
    rw [← Nat.pow_succ, ← Nat.pow_add]
    congr 1
    omega
  rw [e, ← Nat.mul_assoc, Nat.add_mul_div_right _ _ (fd_pp q i), ← Nat.mul_assoc, Nat.add_mul_mod_self_right]
theorem fd_hi {q a b n j : Nat} (ha : a < (q + 1) ^ n) : (a + b * (q + 1) ^ n) / (q + 1) ^ (n + j) = b / (q + 1) ^ j := by
  rw [Nat.pow_add, ← Nat.div_div_eq_div_mul, Nat.add_mul_div_right _ _ (fd_pp q n), Nat.div_eq_of_lt ha, Nat.zero_add]
/-- x + k * y, n digits -/
def fd_c (q x k y : Nat) : Nat → Nat
  | 0 => 0
  | i + 1 => fd_c q x k y i + (x / (q + 1) ^ i + k * (y / (q + 1) ^ i)) % (q + 1) * (q + 1) ^ i
theorem fd_clt (q x k y : Nat) : ∀ n, fd_c q x k y n < (q + 1) ^ n := by
  intro n
  induction n with
  | zero => exact Nat.one_pos
  | succ n ih =>
    have h : (x / (q + 1) ^ n + k * (y / (q + 1) ^ n)) % (q + 1) < q + 1 := Nat.mod_lt _ (by omega)
    have h2 := Nat.mul_le_mul_right ((q + 1) ^ n) (Nat.le_of_lt_succ h)
    have e : (q + 1) ^ (n + 1) = q * (q + 1) ^ n + (q + 1) ^ n := by rw [fd_ps, Nat.mul_comm, Nat.succ_mul]
    simp only [fd_c]
    omega
theorem fd_cdig (q x k y : Nat) : ∀ n i, i < n → fd_c q x k y n / (q + 1) ^ i % (q + 1) = (x / (q + 1) ^ i + k * (y / (q + 1) ^ i)) % (q + 1) := by
  intro n
  induction n with
  | zero => intro i hi; omega
  | succ n ih =>
    intro i hi
    simp only [fd_c]
    rcases Nat.lt_or_ge i n with z | z
    · rw [fd_lo z, ih i z]
    · have e : i = n := by omega
      subst e
      have := fd_hi (q := q) (b := (x / (q + 1) ^ i + k * (y / (q + 1) ^ i)) % (q + 1)) (j := 0) (fd_clt q x k y i)
      rw [Nat.add_zero i, Nat.pow_zero, Nat.div_one] at this
      rw [this, Nat.mod_mod]
theorem fd_Dc {q x k y : Nat} (hx : x < (q + 1) ^ 9) (hy : y < (q + 1) ^ 9) : fd_D q (fd_c q x k y 9) = fun i => fd_D q x i + Fin.ofNat (q + 1) k * fd_D q y i := by
  funext i
  apply Fin.ext
  have e : (fd_D q x i + Fin.ofNat (q + 1) k * fd_D q y i).val = (x / (q + 1) ^ i % (q + 1) + k % (q + 1) * (y / (q + 1) ^ i % (q + 1)) % (q + 1)) % (q + 1) := rfl
  rw [e, ← Nat.mul_mod, ← Nat.add_mod, fd_Dv]
  rcases Nat.lt_or_ge i 9 with z | z
  · exact fd_cdig q x k y 9 i z
  · rw [fd_low (fd_clt q x k y 9) z, fd_low hx z, fd_low hy z, Nat.mul_zero, Nat.add_zero]
theorem fd_c0 {q x k y : Nat} (hk : k % (q + 1) = 0) : ∀ n, fd_c q x k y n = x % (q + 1) ^ n := by
  intro n
  induction n with
  | zero => rw [Nat.pow_zero, Nat.mod_one]; rfl
  | succ n ih =>
    have e : (x / (q + 1) ^ n + k * (y / (q + 1) ^ n)) % (q + 1) = x / (q + 1) ^ n % (q + 1) := by
      rw [Nat.add_mod, Nat.mul_mod, hk, Nat.zero_mul, Nat.zero_mod, Nat.add_zero, Nat.mod_mod]
    simp only [fd_c]
    rw [e, ih, Nat.mod_pow_succ, Nat.mul_comm]
theorem fd_cp {q x k y : Nat} (hk : k % (q + 1) = 0) (hx : x < (q + 1) ^ 9) : fd_c q x k y 9 = x := by
  rw [fd_c0 hk, Nat.mod_eq_of_lt hx]
theorem fd_Dsh (q y i : Nat) : fd_D q (y * (q + 1) ^ i) = fs_sh i (fd_D q y) := by
  funext n
  apply Fin.ext
  rcases Nat.lt_or_ge n i with z | z
  · have e0 : fs_sh i (fd_D q y) n = 0 := by simp [fs_sh, z]
    have e : (q + 1) ^ i = (q + 1) ^ (i - n - 1) * (q + 1) * (q + 1) ^ n := by
      rw [← Nat.pow_succ, ← Nat.pow_add]
      congr 1
      omega
    rw [e0, fd_Dv, e, ← Nat.mul_assoc, Nat.mul_div_cancel _ (fd_pp q n), ← Nat.mul_assoc, Nat.mul_mod_left]
    rfl
  · have e0 : fs_sh i (fd_D q y) n = fd_D q y (n - i) := by simp [fs_sh, Nat.not_lt.mpr z]
    have e := fd_hi (q := q) (a := 0) (b := y) (n := i) (j := n - i) (fd_pp q i)
    rw [Nat.zero_add, Nat.add_sub_cancel' z] at e
    rw [e0, fd_Dv, fd_Dv, e]
theorem fd_Dt {q w c i : Nat} (hc : c < q + 1) : fd_D q (w * (q + 1) ^ (i + 1) + c * (q + 1) ^ i) = fun n => fd_D q (w * (q + 1) ^ (i + 1)) n + fs_t i (Fin.ofNat (q + 1) c) n := by
  have e1 : w * (q + 1) ^ (i + 1) + c * (q + 1) ^ i = (w * (q + 1) + c) * (q + 1) ^ i := by
    rw [fd_ps, Nat.add_mul, Nat.mul_comm ((q + 1) ^ i) (q + 1), Nat.mul_assoc]
  have e2 : w * (q + 1) ^ (i + 1) = (w * (q + 1)) * (q + 1) ^ i := by
    rw [fd_ps, Nat.mul_comm ((q + 1) ^ i) (q + 1), Nat.mul_assoc]
  rw [e1, e2, fd_Dsh, fd_Dsh]
  funext n
  rcases Nat.lt_trichotomy n i with z | z | z
  · have z2 : n ≠ i := by omega
    simp [fs_sh, fs_t, z, z2]
  · subst z
    have h1 : fd_D q (w * (q + 1) + c) 0 = Fin.ofNat (q + 1) c := by
      apply Fin.ext
      rw [fd_Dv, Nat.pow_zero, Nat.div_one, Nat.add_comm, Nat.add_mul_mod_self_right]
      rfl
    have h2 : fd_D q (w * (q + 1)) 0 = 0 := by
      apply Fin.ext
      rw [fd_Dv, Nat.pow_zero, Nat.div_one, Nat.mul_mod_left]
      rfl
    simp [fs_sh, fs_t, h1, h2]
  · have h1 : fd_D q (w * (q + 1) + c) (n - i) = fd_D q (w * (q + 1)) (n - i) := by
      have e : n - i = (n - i - 1) + 1 := by omega
      apply Fin.ext
      rw [fd_Dv, fd_Dv, e, ← fd_dd1, ← fd_dd1, Nat.add_comm, Nat.add_mul_div_right _ _ (by omega), Nat.div_eq_of_lt hc, Nat.zero_add, Nat.mul_div_cancel _ (by omega)]
    have z1 : ¬ n < i := by omega
    have z2 : n ≠ i := by omega
    simp [fs_sh, fs_t, h1, z1, z2]
theorem fd_om (q a b : Nat) : Fin.ofNat (q + 1) (a * b) = Fin.ofNat (q + 1) a * Fin.ofNat (q + 1) b := by
  apply Fin.ext
  show a * b % (q + 1) = a % (q + 1) * (b % (q + 1)) % (q + 1)
  rw [← Nat.mul_mod]
theorem fd_oa (q a b : Nat) : Fin.ofNat (q + 1) (a + b) = Fin.ofNat (q + 1) a + Fin.ofNat (q + 1) b := by
  apply Fin.ext
  show (a + b) % (q + 1) = (a % (q + 1) + b % (q + 1)) % (q + 1)
  rw [← Nat.add_mod]
theorem fd_or (q a : Nat) : Fin.ofNat (q + 1) (a % (q + 1)) = Fin.ofNat (q + 1) a := by
  apply Fin.ext
  show a % (q + 1) % (q + 1) = a % (q + 1)
  rw [Nat.mod_mod]
theorem fd_op (q : Nat) : Fin.ofNat (q + 1) (q + 1) = 0 := by
  apply Fin.ext
  show (q + 1) % (q + 1) = 0
  rw [Nat.mod_self]
/-- the number of digits, at most n -/
def fd_L (q x : Nat) : Nat → Nat
  | 0 => 0
  | n + 1 => if (q + 1) ^ n ≤ x then n + 1 else fd_L q x n
theorem fd_Ls (q x : Nat) : ∀ n, x < (q + 1) ^ n → x < (q + 1) ^ fd_L q x n ∧ fd_L q x n ≤ n ∧ (fd_L q x n ≠ 0 → (q + 1) ^ (fd_L q x n - 1) ≤ x) := by
  intro n
  induction n with
  | zero => intro h; exact ⟨h, Nat.le_refl _, fun h => absurd rfl h⟩
  | succ n ih =>
    intro h
    simp only [fd_L]
    rcases Nat.lt_or_ge x ((q + 1) ^ n) with z | z
    · rw [if_neg (Nat.not_le.mpr z)]
      obtain ⟨a, b, c⟩ := ih z
      exact ⟨a, by omega, c⟩
    · rw [if_pos z]
      exact ⟨h, Nat.le_refl _, fun _ => z⟩
def fd_ln (q x : Nat) : Nat := fd_L q x 9
theorem fd_l1 {q x : Nat} (h : x < (q + 1) ^ 9) : x < (q + 1) ^ fd_ln q x := (fd_Ls q x 9 h).1
theorem fd_l9 {q x : Nat} (h : x < (q + 1) ^ 9) : fd_ln q x ≤ 9 := (fd_Ls q x 9 h).2.1
theorem fd_lp {q x : Nat} (h : x < (q + 1) ^ 9) (h0 : 0 < x) : 0 < fd_ln q x := by
  rcases Nat.eq_zero_or_pos (fd_ln q x) with z | z
  · have := fd_l1 h
    rw [z, Nat.pow_zero] at this
    omega
  · exact z
theorem fd_l2 {q x : Nat} (h : x < (q + 1) ^ 9) (h0 : 0 < x) : (q + 1) ^ (fd_ln q x - 1) ≤ x := by
  have h1 := fd_lp h h0
  exact (fd_Ls q x 9 h).2.2 (by unfold fd_ln at h1; omega)
theorem fd_leq {q x d : Nat} (hd : d ≤ 8) (h1 : (q + 1) ^ d ≤ x) (h2 : x < (q + 1) ^ (d + 1)) : fd_ln q x = d + 1 := by
  have h9 : x < (q + 1) ^ 9 := Nat.lt_of_lt_of_le h2 (fd_pm q (by omega))
  have h0 : 0 < x := Nat.lt_of_lt_of_le (fd_pp q d) h1
  have a := fd_l1 h9
  have b := fd_l2 h9 h0
  have c := fd_lp h9 h0
  rcases Nat.lt_or_ge d (fd_ln q x) with z | z
  · rcases Nat.lt_or_ge (d + 1) (fd_ln q x) with y | y
    · have := fd_pm q (show d + 1 ≤ fd_ln q x - 1 by omega)
      omega
    · omega
  · have := fd_pm q z
    omega
theorem fd_ll {q x n : Nat} (hx : x < (q + 1) ^ 9) (h : x < (q + 1) ^ n) : fd_ln q x ≤ n := by
  rcases Nat.eq_zero_or_pos x with z | z
  · have : fd_ln q x = 0 := by
      subst z
      have h1 : ∀ n, fd_L q 0 n = 0 := by
        intro n
        induction n with
        | zero => rfl
        | succ n ih =>
          simp only [fd_L]
          rw [if_neg (Nat.not_le.mpr (fd_pp q n)), ih]
      exact h1 9
    omega
  · have b := fd_l2 hx z
    rcases Nat.lt_or_ge n (fd_ln q x) with y | y
    · have := fd_pm q (show n ≤ fd_ln q x - 1 by omega)
      omega
    · exact y
theorem fd_top {q x d : Nat} (h1 : (q + 1) ^ d ≤ x) (h2 : x < (q + 1) ^ (d + 1)) : fd_D q x d ≠ 0 := by
  intro h
  have e : (fd_D q x d).val = 0 := by rw [h]; rfl
  rw [fd_Dv, Nat.mod_eq_of_lt] at e
  · have := Nat.div_pos h1 (fd_pp q d)
    omega
  · rw [Nat.div_lt_iff_lt_mul (fd_pp q d), Nat.mul_comm, ← fd_ps]
    exact h2
theorem fd_sm {q x n : Nat} (hx : x < (q + 1) ^ 9) (h : ∀ j, n ≤ j → fd_D q x j = 0) : x < (q + 1) ^ n := by
  rcases Nat.lt_or_ge x ((q + 1) ^ n) with z | z
  · exact z
  · exfalso
    have h0 : 0 < x := Nat.lt_of_lt_of_le (fd_pp q n) z
    have a := fd_l1 hx
    have b := fd_l2 hx h0
    have c := fd_lp hx h0
    refine fd_top b (by rw [Nat.sub_add_cancel c]; exact a) (h _ ?_)
    rcases Nat.lt_or_ge (fd_ln q x) (n + 1) with y | y
    · have := fd_pm q (show fd_ln q x ≤ n by omega)
      omega
    · omega
theorem fd_P {q x : Nat} (hx : x < (q + 1) ^ 9) : fs_P (fd_D q x) := ⟨9, fun _ hi => fd_D0 hx hi⟩
end
section
/-! division of codes -/
def fd_st (q d v y i : Nat) (s : Nat × Nat) : Nat × Nat :=
  (s.1 + s.2 / (q + 1) ^ (d + i) * v % (q + 1) * (q + 1) ^ i, fd_c q s.2 (q + 1 - s.2 / (q + 1) ^ (d + i) * v % (q + 1)) (y * (q + 1) ^ i) 9)
def fd_dv (q d v y : Nat) : Nat → Nat × Nat → Nat × Nat
  | 0, s => s
  | i + 1, s => fd_dv q d v y i (fd_st q d v y i s)
def fd_I (q d y x i : Nat) (s : Nat × Nat) : Prop :=
  s.2 < (q + 1) ^ (d + i) ∧ (∃ w, w < (q + 1) ^ (9 - d - i) ∧ s.1 = w * (q + 1) ^ i) ∧ fd_D q x = fun n => fs_m (fd_D q s.1) (fd_D q y) n + fd_D q s.2 n
theorem fd_Ylt {q d y i : Nat} (hy : y < (q + 1) ^ (d + 1)) : y * (q + 1) ^ i < (q + 1) ^ (d + 1 + i) := by
  rw [Nat.pow_add]
  exact Nat.mul_lt_mul_of_pos_right hy (fd_pp q i)
theorem fd_o1 (q : Nat) : Fin.ofNat (q + 1) 1 = 1 := rfl
theorem fd_stI {q d v y x i : Nat} {s : Nat × Nat} (hy : y < (q + 1) ^ (d + 1)) (hv : y / (q + 1) ^ d * v % (q + 1) = 1) (hi : d + (i + 1) ≤ 9) (h : fd_I q d y x (i + 1) s) : fd_I q d y x i (fd_st q d v y i s) := by
  obtain ⟨a, r⟩ := s
  obtain ⟨hr, ⟨w, hw, ha⟩, hD⟩ := h
  dsimp only at hr ha hD
  generalize hc : r / (q + 1) ^ (d + i) * v % (q + 1) = c
  have hc1 : c < q + 1 := by rw [← hc]; exact Nat.mod_lt _ (by omega)
  have hr9 : r < (q + 1) ^ 9 := Nat.lt_of_lt_of_le hr (fd_pm q hi)
  have hY9 : y * (q + 1) ^ i < (q + 1) ^ 9 := Nat.lt_of_lt_of_le (fd_Ylt hy) (fd_pm q (by omega))
  have e2 := fd_Dc (k := q + 1 - c) hr9 hY9
  rw [fd_Dsh] at e2
  have e1 := fd_Dt (q := q) (w := w) (i := i) hc1
  rw [← ha] at e1
  have hs : fd_st q d v y i (a, r) = (a + c * (q + 1) ^ i, fd_c q r (q + 1 - c) (y * (q + 1) ^ i) 9) := by simp only [fd_st, hc]
  have ho : Fin.ofNat (q + 1) c + Fin.ofNat (q + 1) (q + 1 - c) = 0 := by
    rw [← fd_oa, Nat.add_sub_cancel' (Nat.le_of_lt hc1), fd_op]
  rw [hs]
  refine ⟨?_, ⟨w * (q + 1) + c, ?_, ?_⟩, ?_⟩
  · show fd_c q r (q + 1 - c) (y * (q + 1) ^ i) 9 < (q + 1) ^ (d + i)
    refine fd_sm (fd_clt q r _ _ 9) (fun j hj => ?_)
    have z : ¬ j < i := by omega
    have es : fs_sh i (fd_D q y) j = fd_D q y (j - i) := by simp [fs_sh, z]
    rw [e2]
    show fd_D q r j + Fin.ofNat (q + 1) (q + 1 - c) * fs_sh i (fd_D q y) j = 0
    rw [es]
    rcases Nat.lt_or_ge (d + i) j with y1 | y1
    · exact fs_r2 (fd_D0 hr (by omega)) (fd_D0 hy (by omega))
    · have ej : j = d + i := by omega
      have ei : j - i = d := by omega
      rw [ei, ej]
      have h3 : Fin.ofNat (q + 1) c = fd_D q r (d + i) * Fin.ofNat (q + 1) v := by
        rw [← hc, fd_or, fd_om]
        rfl
      have h4 : fd_D q y d * Fin.ofNat (q + 1) v = 1 := by
        show Fin.ofNat (q + 1) (y / (q + 1) ^ d) * Fin.ofNat (q + 1) v = 1
        rw [← fd_om, ← fd_or, hv, fd_o1]
      exact fs_r1 ho h3 h4
  · have e : 9 - d - i = (9 - d - (i + 1)) + 1 := by omega
    rw [e, fd_ps]
    have := Nat.mul_le_mul_right (q + 1) (Nat.succ_le_of_lt hw)
    rw [Nat.succ_mul] at this
    omega
  · show a + c * (q + 1) ^ i = (w * (q + 1) + c) * (q + 1) ^ i
    rw [ha, fd_ps, Nat.add_mul, Nat.mul_comm ((q + 1) ^ i) (q + 1), Nat.mul_assoc]
  · show fd_D q x = fun n => fs_m (fd_D q (a + c * (q + 1) ^ i)) (fd_D q y) n + fd_D q (fd_c q r (q + 1 - c) (y * (q + 1) ^ i) 9) n
    rw [hD, e1, e2, fs_mdl, fs_mt]
    funext n
    exact fs_r3 ho
theorem fd_dvI {q d v y x : Nat} (hy : y < (q + 1) ^ (d + 1)) (hv : y / (q + 1) ^ d * v % (q + 1) = 1) : ∀ (i : Nat) (s : Nat × Nat), d + i ≤ 9 → fd_I q d y x i s → fd_I q d y x 0 (fd_dv q d v y i s) := by
  intro i
  induction i with
  | zero => intro s _ h; exact h
  | succ i ih => intro s hi h; exact ih _ (by omega) (fd_stI hy hv hi h)
theorem fd_st0 {q d v y i : Nat} {s : Nat × Nat} (hs : s.2 < (q + 1) ^ (d + i)) (h9 : d + i ≤ 9) : fd_st q d v y i s = s := by
  have e : s.2 / (q + 1) ^ (d + i) * v % (q + 1) = 0 := by
    rw [Nat.div_eq_of_lt hs, Nat.zero_mul, Nat.zero_mod]
  simp only [fd_st, e]
  rw [Nat.zero_mul, Nat.add_zero, Nat.sub_zero, fd_cp (Nat.mod_self _) (Nat.lt_of_lt_of_le hs (fd_pm q h9))]
theorem fd_dv0 {q d v y i : Nat} {s : Nat × Nat} (hs : s.2 < (q + 1) ^ (d + i)) : ∀ k, d + i + k ≤ 9 → fd_dv q d v y (i + k) s = fd_dv q d v y i s := by
  intro k
  induction k with
  | zero => intro _; rfl
  | succ k ih =>
    intro h
    have e : fd_dv q d v y (i + (k + 1)) s = fd_dv q d v y (i + k) (fd_st q d v y (i + k) s) := rfl
    rw [e, fd_st0 (Nat.lt_of_lt_of_le hs (fd_pm q (by omega))) (by omega)]
    exact ih (by omega)
/-- the inverse of a digit -/
def fd_iv (q k : Nat) : Nat := k ^ (q - 1) % (q + 1)
theorem fd_ivd : ∀ q, (q = 1 ∨ q = 2 ∨ q = 4) → ∀ k, k < q + 1 → 1 ≤ k → 1 ≤ fd_iv q k ∧ fd_iv q k < q + 1 ∧ k * fd_iv q k % (q + 1) = 1 ∧ ∀ c, c < q + 1 → c * k % (q + 1) = 1 → c = fd_iv q k := by
  intro q hq
  rcases hq with rfl | rfl | rfl <;> decide
def fd_dg (q y : Nat) : Nat := fd_ln q y - 1
def fd_ld (q y : Nat) : Nat := y / (q + 1) ^ fd_dg q y
def fd_qr (q x y : Nat) : Nat × Nat := fd_dv q (fd_dg q y) (fd_iv q (fd_ld q y)) y (9 - fd_dg q y) (0, x)
def fd_qt (q x y : Nat) : Nat := (fd_qr q x y).1
def fd_rm (q x y : Nat) : Nat := (fd_qr q x y).2
section
variable {q : Nat}
theorem fd_dg1 {y : Nat} (h0 : 0 < y) (hy : y < (q + 1) ^ 9) : fd_dg q y + 1 = fd_ln q y := by
  have := fd_lp hy h0
  unfold fd_dg
  omega
theorem fd_dg8 {y : Nat} (hy : y < (q + 1) ^ 9) : fd_dg q y ≤ 8 := by
  have := fd_l9 hy
  unfold fd_dg
  omega
theorem fd_dgu {y : Nat} (h0 : 0 < y) (hy : y < (q + 1) ^ 9) : y < (q + 1) ^ (fd_dg q y + 1) := by
  rw [fd_dg1 h0 hy]
  exact fd_l1 hy
theorem fd_dgl {y : Nat} (h0 : 0 < y) (hy : y < (q + 1) ^ 9) : (q + 1) ^ fd_dg q y ≤ y := fd_l2 hy h0
theorem fd_ldb {y : Nat} (h0 : 0 < y) (hy : y < (q + 1) ^ 9) : 1 ≤ fd_ld q y ∧ fd_ld q y < q + 1 := by
  refine ⟨Nat.div_pos (fd_dgl h0 hy) (fd_pp q _), ?_⟩
  unfold fd_ld
  rw [Nat.div_lt_iff_lt_mul (fd_pp q _), Nat.mul_comm, ← fd_ps]
  exact fd_dgu h0 hy
theorem fd_Dtop {y : Nat} (h0 : 0 < y) (hy : y < (q + 1) ^ 9) : fd_D q y (fd_dg q y) ≠ 0 := fd_top (fd_dgl h0 hy) (fd_dgu h0 hy)
theorem fd_Dabove {y : Nat} (h0 : 0 < y) (hy : y < (q + 1) ^ 9) : ∀ i, fd_dg q y < i → fd_D q y i = 0 := fun _ hi => fd_D0 (fd_dgu h0 hy) hi
theorem fd_div {x y : Nat} (hq : q = 1 ∨ q = 2 ∨ q = 4) (hx : x < (q + 1) ^ 9) (h0 : 0 < y) (hy : y < (q + 1) ^ 9) : fd_rm q x y < (q + 1) ^ fd_dg q y ∧ fd_qt q x y < (q + 1) ^ (9 - fd_dg q y) ∧ fd_D q x = fun n => fs_m (fd_D q (fd_qt q x y)) (fd_D q y) n + fd_D q (fd_rm q x y) n := by
  obtain ⟨b1, b2⟩ := fd_ldb h0 hy
  have h8 := fd_dg8 hy
  have hI : fd_I q (fd_dg q y) y x (9 - fd_dg q y) (0, x) := by
    refine ⟨?_, ⟨0, fd_pp q _, by rw [Nat.zero_mul]⟩, ?_⟩
    · show x < (q + 1) ^ (fd_dg q y + (9 - fd_dg q y))
      rw [Nat.add_sub_cancel' (by omega)]
      exact hx
    · funext n
      exact fs_r6 (fs_zl _ n _ (fd_Dz q))
  obtain ⟨c1, ⟨w, c2, c3⟩, c4⟩ := fd_dvI (fd_dgu h0 hy) (fd_ivd q hq _ b2 b1).2.2.1 _ _ (by omega) hI
  refine ⟨c1, ?_, c4⟩
  have e : fd_qt q x y = w := by
    rw [Nat.pow_zero, Nat.mul_one] at c3
    exact c3
  rw [e]
  exact c2
theorem fd_rml {x y : Nat} (hq : q = 1 ∨ q = 2 ∨ q = 4) (hx : x < (q + 1) ^ 9) (h0 : 0 < y) (hy : y < (q + 1) ^ 9) : fd_rm q x y < y := Nat.lt_of_lt_of_le (fd_div hq hx h0 hy).1 (fd_dgl h0 hy)
theorem fd_rm9 {x y : Nat} (hq : q = 1 ∨ q = 2 ∨ q = 4) (hx : x < (q + 1) ^ 9) (h0 : 0 < y) (hy : y < (q + 1) ^ 9) : fd_rm q x y < (q + 1) ^ 9 := Nat.lt_trans (fd_rml hq hx h0 hy) hy
theorem fd_qt9 {x y : Nat} (hq : q = 1 ∨ q = 2 ∨ q = 4) (hx : x < (q + 1) ^ 9) (h0 : 0 < y) (hy : y < (q + 1) ^ 9) : fd_qt q x y < (q + 1) ^ 9 := Nat.lt_of_lt_of_le (fd_div hq hx h0 hy).2.1 (fd_pm q (by omega))
theorem fd_unq {x y : Nat} (hq : q = 1 ∨ q = 2 ∨ q = 4) (hx : x < (q + 1) ^ 9) (h0 : 0 < y) (hy : y < (q + 1) ^ 9) {a : Nat → Fin (q + 1)} (ha : fs_P a) (h : fd_D q x = fs_m a (fd_D q y)) : fd_rm q x y = 0 ∧ a = fd_D q (fd_qt q x y) := by
  obtain ⟨h1, h2, h3⟩ := fd_div hq hx h0 hy
  have h9 := fd_qt9 hq hx h0 hy
  have e : ∀ n, fs_m (fun i => a i - fd_D q (fd_qt q x y) i) (fd_D q y) n = fd_D q (fd_rm q x y) n := by
    intro n
    rw [fs_msl]
    exact fs_r4 (congrFun (h.symm.trans h3) n)
  have z := fs_can (fd_nz hq) (fs_Ps ha (fd_P h9)) (fd_Dtop h0 hy) (fd_Dabove h0 hy) (fun n hn => by rw [e n]; exact fd_D0 h1 hn)
  refine ⟨?_, funext fun i => fs_r5 (z i)⟩
  refine fd_inj (fd_rm9 hq hx h0 hy) (fd_pp q 9) (funext fun n => ?_)
  rw [← e n, fd_Dz]
  exact fs_zl _ n _ z
theorem fd_dvs {x y : Nat} (hq : q = 1 ∨ q = 2 ∨ q = 4) (hx : x < (q + 1) ^ 9) (h0 : 0 < y) (hy : y < (q + 1) ^ 9) (h : fd_rm q x y = 0) : fd_D q x = fs_m (fd_D q (fd_qt q x y)) (fd_D q y) := by
  obtain ⟨h1, h2, h3⟩ := fd_div hq hx h0 hy
  rw [h3, h]
  funext n
  exact fs_r7 (fd_Dz q n)
end
end
section
/-! monic codes, divisors, least factors -/
section
variable {q : Nat}
theorem fd_sc0 {x : Nat} {c : Fin (q + 1)} {y : Nat} (hy : y < (q + 1) ^ 9) (h : fd_D q y = fun i => c * fd_D q x i) (hx : x = 0) : y = 0 := by
  refine fd_inj hy (fd_pp q 9) (funext fun i => ?_)
  rw [h, hx]
  show c * fd_D q 0 i = fd_D q 0 i
  rw [fd_Dz]
  exact fs_rz c
theorem fd_mz {a b x : Nat} (hx : x < (q + 1) ^ 9) (h : fd_D q x = fs_m (fd_D q a) (fd_D q b)) (ha : a = 0) : x = 0 := by
  refine fd_inj hx (fd_pp q 9) (funext fun i => ?_)
  rw [h, ha, fd_Dz]
  exact fs_zl _ i _ (fd_Dz q)
theorem fd_degm (hq : q = 1 ∨ q = 2 ∨ q = 4) {a b x : Nat} (ha : a < (q + 1) ^ 9) (hb : b < (q + 1) ^ 9) (hx : x < (q + 1) ^ 9) (h0 : 0 < x) (h : fd_D q x = fs_m (fd_D q a) (fd_D q b)) : 0 < a ∧ 0 < b ∧ fd_dg q x = fd_dg q a + fd_dg q b ∧ fd_ln q x + 1 = fd_ln q a + fd_ln q b := by
  have ha0 : 0 < a := by
    rcases Nat.eq_zero_or_pos a with z | z
    · have := fd_mz hx h z; omega
    · exact z
  have hb0 : 0 < b := by
    rcases Nat.eq_zero_or_pos b with z | z
    · have := fd_mz hx (h.trans (fs_mc _ _)) z; omega
    · exact z
  obtain ⟨e1, e2⟩ := fs_deg (fd_D q b) (fd_dg q b) (fd_Dabove hb0 hb) (fd_dg q a) (fd_D q a) (fd_Dabove ha0 ha)
  have n1 : fd_D q x (fd_dg q a + fd_dg q b) ≠ 0 := by
    rw [h]
    show fs_cv (fd_dg q a + fd_dg q b) (fd_D q a) (fd_D q b) ≠ 0
    rw [e1]
    intro z
    rcases fd_nz hq _ _ z with y | y
    · exact fd_Dtop ha0 ha y
    · exact fd_Dtop hb0 hb y
  have l8 : fd_dg q a + fd_dg q b ≤ 8 := by
    rcases Nat.lt_or_ge (fd_dg q a + fd_dg q b) 9 with z | z
    · omega
    · exact absurd (fd_D0 hx z) n1
  have u1 : x < (q + 1) ^ (fd_dg q a + fd_dg q b + 1) := by
    refine fd_sm hx (fun j hj => ?_)
    rw [h]
    exact e2 j (by omega)
  have u2 : (q + 1) ^ (fd_dg q a + fd_dg q b) ≤ x := by
    rcases Nat.lt_or_ge x ((q + 1) ^ (fd_dg q a + fd_dg q b)) with z | z
    · exact absurd (fd_D0 z (Nat.le_refl _)) n1
    · exact z
  have e := fd_leq l8 u2 u1
  have := fd_dg1 ha0 ha
  have := fd_dg1 hb0 hb
  have := fd_dg1 h0 hx
  exact ⟨ha0, hb0, by omega, by omega⟩
/-- monic, of degree 1 to 8 -/
def fd_M (q m : Nat) : Prop := ∃ e, 1 ≤ e ∧ e ≤ 8 ∧ (q + 1) ^ e ≤ m ∧ m < 2 * (q + 1) ^ e
theorem fd_q1 (hq : q = 1 ∨ q = 2 ∨ q = 4) : 1 ≤ q := by omega
theorem fd_m2 {e m : Nat} (hq : q = 1 ∨ q = 2 ∨ q = 4) (h : m < 2 * (q + 1) ^ e) : m < (q + 1) ^ (e + 1) := by
  rw [fd_ps, Nat.mul_comm]
  refine Nat.lt_of_lt_of_le h (Nat.mul_le_mul_right _ ?_)
  have := fd_q1 hq
  omega
theorem fd_Md {m e : Nat} (hq : q = 1 ∨ q = 2 ∨ q = 4) (he : e ≤ 8) (h1 : (q + 1) ^ e ≤ m) (h2 : m < 2 * (q + 1) ^ e) : 0 < m ∧ m < (q + 1) ^ 9 ∧ fd_dg q m = e ∧ fd_ln q m = e + 1 ∧ fd_D q m e = 1 := by
  have h3 := fd_m2 hq h2
  have e1 := fd_leq he h1 h3
  refine ⟨Nat.lt_of_lt_of_le (fd_pp q e) h1, Nat.lt_of_lt_of_le h3 (fd_pm q (by omega)), ?_, e1, ?_⟩
  · unfold fd_dg; omega
  · have e2 : m / (q + 1) ^ e = 1 := by
      refine Nat.div_eq_of_lt_le ?_ ?_
      · omega
      · omega
    apply Fin.ext
    rw [fd_Dv, e2]
    rfl
theorem fd_M0 {m : Nat} (hq : q = 1 ∨ q = 2 ∨ q = 4) (h : fd_M q m) : 0 < m ∧ m < (q + 1) ^ 9 ∧ 1 ≤ fd_dg q m ∧ fd_ln q m = fd_dg q m + 1 ∧ fd_D q m (fd_dg q m) = 1 ∧ (q + 1) ^ fd_dg q m ≤ m ∧ m < 2 * (q + 1) ^ fd_dg q m := by
  obtain ⟨e, h1, h2, h3, h4⟩ := h
  obtain ⟨a, b, c, d, f⟩ := fd_Md hq h2 h3 h4
  rw [c]
  exact ⟨a, b, h1, d, f, h3, h4⟩
theorem fd_mk {z e : Nat} (hq : q = 1 ∨ q = 2 ∨ q = 4) (hz : z < (q + 1) ^ 9) (h : ∀ j, e < j → fd_D q z j = 0) (h1 : fd_D q z e = 1) : (q + 1) ^ e ≤ z ∧ z < 2 * (q + 1) ^ e := by
  have a : z < (q + 1) ^ (e + 1) := fd_sm hz (fun j hj => h j (by omega))
  have b : z / (q + 1) ^ e < q + 1 := by
    rw [Nat.div_lt_iff_lt_mul (fd_pp q e), Nat.mul_comm, ← fd_ps]
    exact a
  have c : z / (q + 1) ^ e = 1 := by
    have := congrArg Fin.val h1
    rw [fd_Dv, Nat.mod_eq_of_lt b] at this
    rw [this]
    have := fd_q1 hq
    show 1 % (q + 1) = 1
    exact Nat.mod_eq_of_lt (by omega)
  have d := Nat.div_add_mod z ((q + 1) ^ e)
  have m := Nat.mod_lt z (fd_pp q e)
  rw [c, Nat.mul_one] at d
  generalize z % (q + 1) ^ e = w at d m
  omega
/-- the monic code beside x -/
def fd_mo (q x : Nat) : Nat := fd_c q 0 (fd_iv q (fd_ld q x)) x 9
theorem fd_mo9 (x : Nat) : fd_mo q x < (q + 1) ^ 9 := fd_clt q 0 _ x 9
theorem fd_Dmo {x : Nat} (hx : x < (q + 1) ^ 9) : fd_D q (fd_mo q x) = fun i => Fin.ofNat (q + 1) (fd_iv q (fd_ld q x)) * fd_D q x i := by
  unfold fd_mo
  rw [fd_Dc (fd_pp q 9) hx]
  funext i
  exact fs_rb (fd_Dz q i)
theorem fd_inv (hq : q = 1 ∨ q = 2 ∨ q = 4) {x : Nat} (h0 : 0 < x) (hx : x < (q + 1) ^ 9) : Fin.ofNat (q + 1) (fd_ld q x) * Fin.ofNat (q + 1) (fd_iv q (fd_ld q x)) = 1 := by
  obtain ⟨b1, b2⟩ := fd_ldb h0 hx
  rw [← fd_om, ← fd_or, (fd_ivd q hq _ b2 b1).2.2.1, fd_o1]
theorem fd_mob (hq : q = 1 ∨ q = 2 ∨ q = 4) {x : Nat} (h0 : 0 < x) (hx : x < (q + 1) ^ 9) : (q + 1) ^ fd_dg q x ≤ fd_mo q x ∧ fd_mo q x < 2 * (q + 1) ^ fd_dg q x := by
  refine fd_mk hq (fd_mo9 x) (fun j hj => ?_) ?_
  · rw [fd_Dmo hx]
    show Fin.ofNat (q + 1) (fd_iv q (fd_ld q x)) * fd_D q x j = 0
    rw [fd_Dabove h0 hx j hj]
    exact fs_rz _
  · rw [fd_Dmo hx]
    show Fin.ofNat (q + 1) (fd_iv q (fd_ld q x)) * Fin.ofNat (q + 1) (fd_ld q x) = 1
    exact fs_rd (fd_inv hq h0 hx)
theorem fd_moM (hq : q = 1 ∨ q = 2 ∨ q = 4) {x : Nat} (h0 : 0 < x) (hx : x < (q + 1) ^ 9) (h1 : 1 ≤ fd_dg q x) : fd_M q (fd_mo q x) ∧ fd_dg q (fd_mo q x) = fd_dg q x := by
  obtain ⟨a, b⟩ := fd_mob hq h0 hx
  exact ⟨⟨fd_dg q x, h1, fd_dg8 hx, a, b⟩, (fd_Md hq (fd_dg8 hx) a b).2.2.1⟩
/-- x is y times a coefficient that isn't 0 -/
def fd_S (q x y : Nat) : Prop := ∃ c c' : Fin (q + 1), c * c' = 1 ∧ fd_D q x = fun i => c * fd_D q y i
theorem fd_Ss {x y : Nat} (h : fd_S q x y) : fd_S q y x := by
  obtain ⟨c, c', h1, h2⟩ := h
  refine ⟨c', c, fs_rd h1, ?_⟩
  rw [h2]
  funext i
  exact (fs_r9 _ h1).symm
theorem fd_Smo (hq : q = 1 ∨ q = 2 ∨ q = 4) {x : Nat} (h0 : 0 < x) (hx : x < (q + 1) ^ 9) : fd_S q (fd_mo q x) x :=
  ⟨Fin.ofNat (q + 1) (fd_iv q (fd_ld q x)), Fin.ofNat (q + 1) (fd_ld q x), fs_rd (fd_inv hq h0 hx), fd_Dmo hx⟩
theorem fd_S0 {x y : Nat} (hx : x < (q + 1) ^ 9) (h : fd_S q x y) (h0 : 0 < x) : 0 < y := by
  obtain ⟨c, c', h1, h2⟩ := h
  rcases Nat.eq_zero_or_pos y with z | z
  · have := fd_sc0 hx h2 z; omega
  · exact z
theorem fd_Sl {x y : Nat} (hx : x < (q + 1) ^ 9) (hy : y < (q + 1) ^ 9) (h : fd_S q x y) (h0 : 0 < y) : fd_ln q x ≤ fd_ln q y := by
  obtain ⟨c, c', h1, h2⟩ := h
  have a := fd_l1 hy
  refine fd_ll hx (fd_sm hx (fun j hj => ?_))
  rw [h2]
  show c * fd_D q y j = 0
  rw [fd_D0 a hj]
  exact fs_rz c
theorem fd_Se {x y : Nat} (hx : x < (q + 1) ^ 9) (hy : y < (q + 1) ^ 9) (h : fd_S q x y) (h0 : 0 < x) : fd_ln q x = fd_ln q y := Nat.le_antisymm (fd_Sl hx hy h (fd_S0 hx h h0)) (fd_Sl hy hx (fd_Ss h) h0)
theorem fd_Sd (hq : q = 1 ∨ q = 2 ∨ q = 4) {x y m : Nat} (hx : x < (q + 1) ^ 9) (hy : y < (q + 1) ^ 9) (m0 : 0 < m) (hm : m < (q + 1) ^ 9) (h : fd_S q x y) (hd : fd_rm q y m = 0) : fd_rm q x m = 0 ∧ fd_S q (fd_qt q x m) (fd_qt q y m) := by
  obtain ⟨c, c', h1, h2⟩ := h
  have e := fd_dvs hq hy m0 hm hd
  have k : fd_D q x = fs_m (fun i => c * fd_D q (fd_qt q y m) i) (fd_D q m) := by
    rw [h2, e, fs_mcl]
  obtain ⟨a, b⟩ := fd_unq hq hx m0 hm (fs_Pc c (fd_P (fd_qt9 hq hy m0 hm))) k
  exact ⟨a, c, c', h1, b.symm⟩
theorem fd_Sdi (hq : q = 1 ∨ q = 2 ∨ q = 4) {x y m : Nat} (hx : x < (q + 1) ^ 9) (hy : y < (q + 1) ^ 9) (m0 : 0 < m) (hm : m < (q + 1) ^ 9) (h : fd_S q x y) : fd_rm q x m = 0 ↔ fd_rm q y m = 0 :=
  ⟨fun k => (fd_Sd hq hy hx m0 hm (fd_Ss h) k).1, fun k => (fd_Sd hq hx hy m0 hm h k).1⟩
theorem fd_tr (hq : q = 1 ∨ q = 2 ∨ q = 4) {x m l : Nat} (hx : x < (q + 1) ^ 9) (m0 : 0 < m) (hm : m < (q + 1) ^ 9) (l0 : 0 < l) (hl : l < (q + 1) ^ 9) (h1 : fd_rm q x m = 0) (h2 : fd_rm q m l = 0) : fd_rm q x l = 0 := by
  have e1 := fd_dvs hq hx m0 hm h1
  have e2 := fd_dvs hq hm l0 hl h2
  rw [e2, ← fs_ma] at e1
  exact (fd_unq hq hx l0 hl (fs_Pm (fd_P (fd_qt9 hq hx m0 hm)) (fd_P (fd_qt9 hq hm l0 hl))) e1).1
theorem fd_tq (hq : q = 1 ∨ q = 2 ∨ q = 4) {x m l : Nat} (hx : x < (q + 1) ^ 9) (m0 : 0 < m) (hm : m < (q + 1) ^ 9) (l0 : 0 < l) (hl : l < (q + 1) ^ 9) (h1 : fd_rm q x m = 0) (h2 : fd_rm q (fd_qt q x m) l = 0) : fd_rm q x l = 0 := by
  have e1 := fd_dvs hq hx m0 hm h1
  have hq9 := fd_qt9 hq hx m0 hm
  have e2 := fd_dvs hq hq9 l0 hl h2
  rw [e2, fs_mc, ← fs_ma] at e1
  exact (fd_unq hq hx l0 hl (fs_Pm (fd_P hm) (fd_P (fd_qt9 hq hq9 l0 hl))) e1).1
/-- the quotient divides too, and so does its monic code -/
theorem fd_cof (hq : q = 1 ∨ q = 2 ∨ q = 4) {x m : Nat} (hx : x < (q + 1) ^ 9) (h0 : 0 < x) (m0 : 0 < m) (hm : m < (q + 1) ^ 9) (h : fd_rm q x m = 0) : 0 < fd_qt q x m ∧ fd_rm q x (fd_mo q (fd_qt q x m)) = 0 ∧ fd_dg q x = fd_dg q (fd_qt q x m) + fd_dg q m ∧ fd_ln q x + 1 = fd_ln q (fd_qt q x m) + fd_ln q m := by
  have e1 := fd_dvs hq hx m0 hm h
  have h9 := fd_qt9 hq hx m0 hm
  obtain ⟨a, _, b, c⟩ := fd_degm hq h9 hm hx h0 e1
  refine ⟨a, ?_, b, c⟩
  obtain ⟨k, k', k1, k2⟩ := fd_Ss (fd_Smo hq a h9)
  rw [k2, fs_mcl] at e1
  have e2 : fd_D q x = fs_m (fun i => k * fd_D q m i) (fd_D q (fd_mo q (fd_qt q x m))) := by
    rw [e1, fs_mcl, fs_mc]
  have mo0 : 0 < fd_mo q (fd_qt q x m) := Nat.lt_of_lt_of_le (fd_pp q _) (fd_mob hq a h9).1
  exact (fd_unq hq hx mo0 (fd_mo9 _) (fs_Pc k (fd_P hm)) e2).1
/-- two monic codes of one degree, one divides the other -/
theorem fd_MM (hq : q = 1 ∨ q = 2 ∨ q = 4) {m l : Nat} (hm : fd_M q m) (hl : fd_M q l) (h : fd_rm q m l = 0) (hd : fd_dg q m ≤ fd_dg q l) : m = l := by
  obtain ⟨a1, a2, a3, a4, a5, _, _⟩ := fd_M0 hq hm
  obtain ⟨b1, b2, b3, b4, b5, _, _⟩ := fd_M0 hq hl
  have e1 := fd_dvs hq a2 b1 b2 h
  have h9 := fd_qt9 hq a2 b1 b2
  obtain ⟨c1, _, c3, c4⟩ := fd_cof hq a2 a1 b1 b2 h
  have c5 := fd_l1 h9
  have c6 : fd_ln q (fd_qt q m l) = 1 := by omega
  rw [c6] at c5
  have k : ∀ n, fd_D q m n = fd_D q (fd_qt q m l) 0 * fd_D q l n := by
    intro n
    rw [e1]
    exact fs_const _ _ (fun i => fd_D0 c5 (by omega)) n
  have k1 : fd_D q (fd_qt q m l) 0 = 1 := by
    have z := k (fd_dg q m)
    have ed : fd_dg q m = fd_dg q l := by omega
    rw [a5, ed, b5] at z
    exact fs_re z rfl
  refine fd_inj a2 b2 (funext fun n => ?_)
  rw [k n, k1]
  exact fs_rc _
/-- the least factor -/
def fd_F (q x m : Nat) : Prop := fd_M q m ∧ fd_rm q x m = 0 ∧ ∀ l, fd_M q l → l < m → fd_rm q x l ≠ 0
theorem fd_Fu {x m l : Nat} (h : fd_F q x m) (k : fd_F q x l) : m = l := by
  rcases Nat.lt_trichotomy m l with z | z | z
  · exact absurd h.2.1 (k.2.2 m h.1 z)
  · exact z
  · exact absurd k.2.1 (h.2.2 l k.1 z)
theorem fd_self (hq : q = 1 ∨ q = 2 ∨ q = 4) {x y : Nat} (hx : x < (q + 1) ^ 9) (hy : y < (q + 1) ^ 9) (h0 : 0 < y) (h : fd_S q x y) : fd_rm q x y = 0 := by
  obtain ⟨c, c', h1, h2⟩ := h
  have e : fd_D q x = fs_m (fs_t 0 c) (fd_D q y) := by
    rw [fs_mt, h2]
    funext n
    simp [fs_sh]
  exact (fd_unq hq hx h0 hy ⟨1, fun i hi => by have : i ≠ 0 := by omega
                                               simp [fs_t, this]⟩ e).1
theorem fd_Fe (hq : q = 1 ∨ q = 2 ∨ q = 4) {x : Nat} (hx : x < (q + 1) ^ 9) (h1 : 1 ≤ fd_dg q x) : ∃ m, fd_F q x m := by
  have h0 : 0 < x := by
    rcases Nat.eq_zero_or_pos x with z | z
    · have : fd_ln q x ≤ 0 := fd_ll hx (by rw [z]; exact fd_pp q 0)
      unfold fd_dg at h1
      omega
    · exact z
  have a := (fd_moM hq h0 hx h1).1
  have b := fd_self hq hx (fd_mo9 x) (fd_M0 hq a).1 (fd_Ss (fd_Smo hq h0 hx))
  obtain ⟨k, k1, k2⟩ := pk_least (fun k => fd_M q k ∧ fd_rm q x k = 0) ⟨_, a, b⟩
  exact ⟨k, k1.1, k1.2, fun l hl hlk z => k2 l hlk ⟨hl, z⟩⟩
theorem fd_dmono {x y : Nat} (hx : x < (q + 1) ^ 9) (hy : y < (q + 1) ^ 9) (h : x ≤ y) : fd_dg q x ≤ fd_dg q y := by
  have := fd_ll hx (Nat.lt_of_le_of_lt h (fd_l1 hy))
  unfold fd_dg
  omega
theorem fd_half (hq : q = 1 ∨ q = 2 ∨ q = 4) {x m : Nat} (hx : x < (q + 1) ^ 9) (h0 : 0 < x) (h : fd_F q x m) : 2 * fd_dg q m ≤ fd_dg q x ∨ m = fd_mo q x := by
  obtain ⟨hM, hr, hl⟩ := h
  obtain ⟨a1, a2, a3, a4, a5, _, _⟩ := fd_M0 hq hM
  obtain ⟨c1, c2, c3, c4⟩ := fd_cof hq hx h0 a1 a2 hr
  have h9 := fd_qt9 hq hx a1 a2
  rcases Nat.eq_zero_or_pos (fd_dg q (fd_qt q x m)) with z | z
  · right
    have s := fd_Smo hq h0 hx
    have x1 : 1 ≤ fd_dg q x := by omega
    obtain ⟨b, b'⟩ := fd_moM hq h0 hx x1
    exact (fd_MM hq b hM ((fd_Sdi hq (fd_mo9 x) hx a1 a2 s).mpr hr) (by omega)).symm
  · left
    obtain ⟨b, b'⟩ := fd_moM hq c1 h9 z
    rcases Nat.lt_or_ge (fd_mo q (fd_qt q x m)) m with y | y
    · exact absurd c2 (hl _ b y)
    · have := fd_dmono a2 (fd_mo9 _) y
      omega
/-- irreducible: no monic divisor but itself -/
def fd_Ir (q m : Nat) : Prop := fd_M q m ∧ ∀ l, fd_M q l → fd_rm q m l = 0 → l = m
theorem fd_FI (hq : q = 1 ∨ q = 2 ∨ q = 4) {x m : Nat} (hx : x < (q + 1) ^ 9) (h : fd_F q x m) : fd_Ir q m := by
  obtain ⟨hM, hr, hl⟩ := h
  refine ⟨hM, fun l h1 h2 => ?_⟩
  obtain ⟨a1, a2, a3, a4, a5, _, _⟩ := fd_M0 hq hM
  obtain ⟨b1, b2, b3, b4, b5, _, _⟩ := fd_M0 hq h1
  have t := fd_tr hq hx a1 a2 b1 b2 hr h2
  rcases Nat.lt_or_ge l m with y | y
  · exact absurd t (hl l h1 y)
  · exact (fd_MM hq hM h1 h2 (fd_dmono a2 b2 y)).symm
theorem fd_FS (hq : q = 1 ∨ q = 2 ∨ q = 4) {x y m : Nat} (hx : x < (q + 1) ^ 9) (hy : y < (q + 1) ^ 9) (h : fd_S q x y) (k : fd_F q y m) : fd_F q x m := by
  obtain ⟨hM, hr, hl⟩ := k
  refine ⟨hM, (fd_Sdi hq hx hy (fd_M0 hq hM).1 (fd_M0 hq hM).2.1 h).mpr hr, fun l h1 h2 z => hl l h1 h2 ((fd_Sdi hq hx hy (fd_M0 hq h1).1 (fd_M0 hq h1).2.1 h).mp z)⟩
end
end
section
/-! dividing a factor out; Euclid; the chain of least factors -/
def fd_wo (q m : Nat) : Nat → Nat → Nat
  | 0, x => x
  | n + 1, x => if fd_rm q x m = 0 then fd_wo q m n (fd_qt q x m) else x
def fd_mu (q m : Nat) : Nat → Nat → Nat
  | 0, _ => 0
  | n + 1, x => if fd_rm q x m = 0 then fd_mu q m n (fd_qt q x m) + 1 else 0
section
variable {q : Nat}
theorem fd_nd (hq : q = 1 ∨ q = 2 ∨ q = 4) {x m : Nat} (hm : fd_M q m) (h0 : 0 < x) (hx : x < (q + 1) ^ 9) (h : fd_dg q x < fd_dg q m) : fd_rm q x m ≠ 0 := by
  intro z
  have := (fd_cof hq hx h0 (fd_M0 hq hm).1 (fd_M0 hq hm).2.1 z).2.2.1
  omega
theorem fd_woS (hq : q = 1 ∨ q = 2 ∨ q = 4) {m : Nat} (hm : fd_M q m) : ∀ n x, 0 < x → x < (q + 1) ^ 9 → fd_dg q x ≤ n → 0 < fd_wo q m n x ∧ fd_wo q m n x < (q + 1) ^ 9 ∧ fd_rm q (fd_wo q m n x) m ≠ 0 ∧ fd_dg q x = fd_dg q (fd_wo q m n x) + fd_mu q m n x * fd_dg q m ∧ (∀ k, n ≤ k → fd_wo q m k x = fd_wo q m n x ∧ fd_mu q m k x = fd_mu q m n x) ∧ (∀ l, fd_M q l → fd_rm q (fd_wo q m n x) l = 0 → fd_rm q x l = 0) := by
  obtain ⟨m0, m9, m1, _⟩ := fd_M0 hq hm
  intro n
  induction n with
  | zero =>
    intro x h0 hx hd
    have z := fd_nd hq hm h0 hx (by omega)
    refine ⟨h0, hx, z, by simp only [fd_wo, fd_mu]; omega, fun k _ => ?_, fun l _ h => h⟩
    cases k with
    | zero => exact ⟨rfl, rfl⟩
    | succ k =>
      simp only [fd_wo, fd_mu]
      rw [if_neg z, if_neg z]
      exact ⟨rfl, rfl⟩
  | succ n ih =>
    intro x h0 hx hd
    rcases Classical.em (fd_rm q x m = 0) with z | z
    · obtain ⟨c1, c2, c3, _⟩ := fd_cof hq hx h0 m0 m9 z
      obtain ⟨a1, a2, a3, a4, a5, a6⟩ := ih (fd_qt q x m) c1 (fd_qt9 hq hx m0 m9) (by omega)
      have e1 : fd_wo q m (n + 1) x = fd_wo q m n (fd_qt q x m) := by simp only [fd_wo]; rw [if_pos z]
      have e2 : fd_mu q m (n + 1) x = fd_mu q m n (fd_qt q x m) + 1 := by simp only [fd_mu]; rw [if_pos z]
      rw [e1, e2]
      refine ⟨a1, a2, a3, by rw [Nat.succ_mul]; omega, fun k hk => ?_, fun l hl h => fd_tq hq hx m0 m9 (fd_M0 hq hl).1 (fd_M0 hq hl).2.1 z (a6 l hl h)⟩
      cases k with
      | zero => omega
      | succ k =>
        obtain ⟨b1, b2⟩ := a5 k (by omega)
        simp only [fd_wo, fd_mu]
        rw [if_pos z, if_pos z, b1, b2]
        exact ⟨rfl, rfl⟩
    · have e1 : ∀ k, fd_wo q m (k + 1) x = x := by intro k; simp only [fd_wo]; rw [if_neg z]
      have e2 : ∀ k, fd_mu q m (k + 1) x = 0 := by intro k; simp only [fd_mu]; rw [if_neg z]
      rw [e1, e2]
      refine ⟨h0, hx, z, by omega, fun k hk => ?_, fun l _ h => h⟩
      cases k with
      | zero => omega
      | succ k => exact ⟨e1 k, e2 k⟩
theorem fd_woc (hq : q = 1 ∨ q = 2 ∨ q = 4) {m : Nat} (hm : fd_M q m) : ∀ n x y, x < (q + 1) ^ 9 → y < (q + 1) ^ 9 → fd_S q x y → fd_S q (fd_wo q m n x) (fd_wo q m n y) ∧ fd_mu q m n x = fd_mu q m n y := by
  obtain ⟨m0, m9, _⟩ := fd_M0 hq hm
  intro n
  induction n with
  | zero => intro x y _ _ h; exact ⟨h, rfl⟩
  | succ n ih =>
    intro x y hx hy h
    have e := fd_Sdi hq hx hy m0 m9 h
    simp only [fd_wo, fd_mu]
    rcases Classical.em (fd_rm q y m = 0) with z | z
    · rw [if_pos z, if_pos z, if_pos (e.mpr z), if_pos (e.mpr z)]
      obtain ⟨a, b⟩ := ih _ _ (fd_qt9 hq hx m0 m9) (fd_qt9 hq hy m0 m9) (fd_Sd hq hx hy m0 m9 h z).2
      exact ⟨a, by rw [b]⟩
    · rw [if_neg z, if_neg z, if_neg (fun k => z (e.mp k)), if_neg (fun k => z (e.mp k))]
      exact ⟨h, rfl⟩
theorem fd_eu1 (hq : q = 1 ∨ q = 2 ∨ q = 4) {m : Nat} (hI : fd_Ir q m) {b : Nat → Fin (q + 1)} (hb : fs_P b) : ∀ n r, r < n → 0 < r → r < (q + 1) ^ 9 → fd_dg q r < fd_dg q m → (∃ a, fs_P a ∧ fs_m (fd_D q r) b = fs_m a (fd_D q m)) → ∃ c, fs_P c ∧ b = fs_m c (fd_D q m) := by
  obtain ⟨m0, m9, m1, _⟩ := fd_M0 hq hI.1
  intro n
  induction n with
  | zero => intro r h; omega
  | succ n ih =>
    intro r hn r0 r9 hd ⟨a, ha, h⟩
    rcases Nat.eq_zero_or_pos (fd_dg q r) with z | z
    · have k := fd_inv hq r0 r9
      have e : fd_D q r 0 = Fin.ofNat (q + 1) (fd_ld q r) := by
        show Fin.ofNat (q + 1) (r / (q + 1) ^ 0) = _
        unfold fd_ld
        rw [z]
      have u := fd_dgu r0 r9
      rw [z] at u
      refine ⟨fun i => Fin.ofNat (q + 1) (fd_iv q (fd_ld q r)) * a i, fs_Pc _ ha, ?_⟩
      rw [fs_mcl, ← h]
      funext i
      have w : fs_m (fd_D q r) b i = fd_D q r 0 * b i := fs_const b (fd_D q r) (fun i => fd_D0 u (by omega)) i
      show b i = _ * fs_m (fd_D q r) b i
      rw [w, e]
      exact (fs_r9 _ k).symm
    · obtain ⟨d1, d2, d3⟩ := fd_div hq m9 r0 r9
      have s9 := fd_rm9 hq m9 r0 r9
      rcases Nat.eq_zero_or_pos (fd_rm q m r) with y | y
      · exfalso
        obtain ⟨x1, x2⟩ := fd_moM hq r0 r9 z
        have t := fd_self hq r9 (fd_mo9 r) (fd_M0 hq x1).1 (fd_Ss (fd_Smo hq r0 r9))
        have := hI.2 _ x1 (fd_tr hq m9 r0 r9 (fd_M0 hq x1).1 (fd_mo9 r) y t)
        rw [this] at x2
        omega
      · have l1 := fd_ll s9 d1
        have l2 := fd_dg1 y s9
        refine ih (fd_rm q m r) (by have := fd_rml hq m9 r0 r9; omega) y s9 (by omega) ⟨fun i => b i - fs_m (fd_D q (fd_qt q m r)) a i, fs_Ps hb (fs_Pm (fd_P (fd_qt9 hq m9 r0 r9)) ha), ?_⟩
        have hS : fd_D q (fd_rm q m r) = fun i => fd_D q m i - fs_m (fd_D q (fd_qt q m r)) (fd_D q r) i := by
          funext i
          exact (fs_r4 (congrFun d3 i)).symm
        rw [hS, fs_msl, fs_msl, fs_ma, h, ← fs_ma, fs_mc (fd_D q m) b]
theorem fd_eu (hq : q = 1 ∨ q = 2 ∨ q = 4) {m x : Nat} (hI : fd_Ir q m) (hx : x < (q + 1) ^ 9) (hr : fd_rm q x m ≠ 0) {a b : Nat → Fin (q + 1)} (ha : fs_P a) (hb : fs_P b) (h : fs_m (fd_D q x) b = fs_m a (fd_D q m)) : ∃ c, fs_P c ∧ b = fs_m c (fd_D q m) := by
  obtain ⟨m0, m9, m1, _⟩ := fd_M0 hq hI.1
  obtain ⟨d1, d2, d3⟩ := fd_div hq hx m0 m9
  have s9 := fd_rm9 hq hx m0 m9
  have y : 0 < fd_rm q x m := Nat.pos_of_ne_zero hr
  have l1 := fd_ll s9 d1
  have l2 := fd_dg1 y s9
  refine fd_eu1 hq hI hb _ (fd_rm q x m) (Nat.lt_succ_self _) y s9 (by omega) ⟨fun i => a i - fs_m (fd_D q (fd_qt q x m)) b i, fs_Ps ha (fs_Pm (fd_P (fd_qt9 hq hx m0 m9)) hb), ?_⟩
  have hS : fd_D q (fd_rm q x m) = fun i => fd_D q x i - fs_m (fd_D q (fd_qt q x m)) (fd_D q m) i := by
    funext i
    exact (fs_r4 (congrFun d3 i)).symm
  rw [hS, fs_msl, fs_msl, h, fs_ma, fs_ma, fs_mc (fd_D q m) b]
theorem fd_mu1 (hq : q = 1 ∨ q = 2 ∨ q = 4) {m f x y : Nat} (hI : fd_Ir q m) (hf : f < (q + 1) ^ 9) (hr : fd_rm q f m ≠ 0) (hx : x < (q + 1) ^ 9) (hy : y < (q + 1) ^ 9) (h : fd_D q x = fs_m (fd_D q f) (fd_D q y)) : (fd_rm q x m = 0 ↔ fd_rm q y m = 0) ∧ (fd_rm q y m = 0 → fd_D q (fd_qt q x m) = fs_m (fd_D q f) (fd_D q (fd_qt q y m))) := by
  obtain ⟨m0, m9, m1, _⟩ := fd_M0 hq hI.1
  have k : fd_rm q y m = 0 → fd_rm q x m = 0 ∧ fd_D q (fd_qt q x m) = fs_m (fd_D q f) (fd_D q (fd_qt q y m)) := by
    intro z
    have e := fd_dvs hq hy m0 m9 z
    have h2 := h
    rw [e, ← fs_ma] at h2
    obtain ⟨a, b⟩ := fd_unq hq hx m0 m9 (fs_Pm (fd_P hf) (fd_P (fd_qt9 hq hy m0 m9))) h2
    exact ⟨a, b.symm⟩
  refine ⟨⟨fun z => ?_, fun z => (k z).1⟩, fun z => (k z).2⟩
  have e := fd_dvs hq hx m0 m9 z
  obtain ⟨c, c1, c2⟩ := fd_eu hq hI hf hr (fd_P (fd_qt9 hq hx m0 m9)) (fd_P hy) (h.symm.trans e)
  exact (fd_unq hq hy m0 m9 c1 c2).1
theorem fd_mu2 (hq : q = 1 ∨ q = 2 ∨ q = 4) {m f : Nat} (hI : fd_Ir q m) (hf : f < (q + 1) ^ 9) (hr : fd_rm q f m ≠ 0) : ∀ n x y, x < (q + 1) ^ 9 → y < (q + 1) ^ 9 → fd_D q x = fs_m (fd_D q f) (fd_D q y) → fd_mu q m n x = fd_mu q m n y := by
  obtain ⟨m0, m9, m1, _⟩ := fd_M0 hq hI.1
  intro n
  induction n with
  | zero => intro x y _ _ _; rfl
  | succ n ih =>
    intro x y hx hy h
    obtain ⟨a, b⟩ := fd_mu1 hq hI hf hr hx hy h
    simp only [fd_mu]
    rcases Classical.em (fd_rm q y m = 0) with z | z
    · rw [if_pos z, if_pos (a.mpr z), ih _ _ (fd_qt9 hq hx m0 m9) (fd_qt9 hq hy m0 m9) (b z)]
    · rw [if_neg z, if_neg (fun k => z (a.mp k))]
theorem fd_mu3 (hq : q = 1 ∨ q = 2 ∨ q = 4) {m f : Nat} (hI : fd_Ir q m) (hf : fd_M q f) (hr : fd_rm q f m ≠ 0) (k : Nat) : ∀ n x, x < (q + 1) ^ 9 → fd_mu q m k x = fd_mu q m k (fd_wo q f n x) := by
  obtain ⟨f0, f9, f1, _⟩ := fd_M0 hq hf
  intro n
  induction n with
  | zero => intro x _; rfl
  | succ n ih =>
    intro x hx
    simp only [fd_wo]
    rcases Classical.em (fd_rm q x f = 0) with z | z
    · have h9 := fd_qt9 hq hx f0 f9
      have e := fd_dvs hq hx f0 f9 z
      rw [fs_mc] at e
      rw [if_pos z, fd_mu2 hq hI f9 hr k x _ hx h9 e, ih _ h9]
    · rw [if_neg z]
/-- the least factor, 0 if there is none -/
noncomputable def fd_lf (q x : Nat) : Nat := if 1 ≤ fd_dg q x then Classical.epsilon (fd_F q x) else 0
noncomputable def fd_nx (q x : Nat) : Nat := if 1 ≤ fd_dg q x then fd_wo q (fd_lf q x) 8 x else x
noncomputable def fd_it (q : Nat) : Nat → Nat → Nat
  | 0, x => x
  | n + 1, x => fd_it q n (fd_nx q x)
noncomputable def fd_ct (q : Nat) : Nat → Nat → Nat
  | 0, _ => 0
  | n + 1, x => if 1 ≤ fd_dg q x then fd_ct q n (fd_nx q x) + 1 else 0
theorem fd_lfF (hq : q = 1 ∨ q = 2 ∨ q = 4) {x : Nat} (hx : x < (q + 1) ^ 9) (h1 : 1 ≤ fd_dg q x) : fd_F q x (fd_lf q x) := by
  unfold fd_lf
  rw [if_pos h1]
  exact Classical.epsilon_spec (fd_Fe hq hx h1)
theorem fd_lf0 {x : Nat} (h : fd_dg q x = 0) : fd_lf q x = 0 := by
  unfold fd_lf
  rw [if_neg (by omega)]
theorem fd_nx0 {x : Nat} (h : fd_dg q x = 0) : fd_nx q x = x := by
  unfold fd_nx
  rw [if_neg (by omega)]
theorem fd_nx1 {x : Nat} (h : 1 ≤ fd_dg q x) : fd_nx q x = fd_wo q (fd_lf q x) 8 x := by
  unfold fd_nx
  rw [if_pos h]
theorem fd_nxS (hq : q = 1 ∨ q = 2 ∨ q = 4) {x : Nat} (h0 : 0 < x) (hx : x < (q + 1) ^ 9) (h1 : 1 ≤ fd_dg q x) : 0 < fd_nx q x ∧ fd_nx q x < (q + 1) ^ 9 ∧ fd_rm q (fd_nx q x) (fd_lf q x) ≠ 0 ∧ fd_dg q x = fd_dg q (fd_nx q x) + fd_mu q (fd_lf q x) 8 x * fd_dg q (fd_lf q x) ∧ 1 ≤ fd_mu q (fd_lf q x) 8 x ∧ fd_dg q (fd_nx q x) < fd_dg q x ∧ ∀ l, fd_M q l → fd_rm q (fd_nx q x) l = 0 → fd_rm q x l = 0 := by
  obtain ⟨hM, hr, hl⟩ := fd_lfF hq hx h1
  obtain ⟨m0, m9, m1, _⟩ := fd_M0 hq hM
  obtain ⟨a1, a2, a3, a4, a5, a6⟩ := fd_woS hq hM 8 x h0 hx (fd_dg8 hx)
  rw [fd_nx1 h1]
  have c : 1 ≤ fd_mu q (fd_lf q x) 8 x := by
    show 1 ≤ if fd_rm q x (fd_lf q x) = 0 then fd_mu q (fd_lf q x) 7 (fd_qt q x (fd_lf q x)) + 1 else 0
    rw [if_pos hr]
    omega
  have d : 1 ≤ fd_mu q (fd_lf q x) 8 x * fd_dg q (fd_lf q x) := Nat.mul_pos c m1
  exact ⟨a1, a2, a3, a4, c, by omega, a6⟩
theorem fd_nxb (hq : q = 1 ∨ q = 2 ∨ q = 4) {x : Nat} (h0 : 0 < x) (hx : x < (q + 1) ^ 9) : 0 < fd_nx q x ∧ fd_nx q x < (q + 1) ^ 9 := by
  rcases Nat.eq_zero_or_pos (fd_dg q x) with z | z
  · rw [fd_nx0 z]; exact ⟨h0, hx⟩
  · have := fd_nxS hq h0 hx z
    exact ⟨this.1, this.2.1⟩
theorem fd_itb (hq : q = 1 ∨ q = 2 ∨ q = 4) : ∀ i x, 0 < x → x < (q + 1) ^ 9 → 0 < fd_it q i x ∧ fd_it q i x < (q + 1) ^ 9 := by
  intro i
  induction i with
  | zero => intro x h0 hx; exact ⟨h0, hx⟩
  | succ i ih => intro x h0 hx; exact ih _ (fd_nxb hq h0 hx).1 (fd_nxb hq h0 hx).2
theorem fd_it0 {x : Nat} (h : fd_dg q x = 0) : ∀ i, fd_it q i x = x := by
  intro i
  induction i with
  | zero => rfl
  | succ i ih =>
    show fd_it q i (fd_nx q x) = x
    rw [fd_nx0 h, ih]
theorem fd_its (i : Nat) : ∀ x, fd_it q (i + 1) x = fd_nx q (fd_it q i x) := by
  induction i with
  | zero => intro x; rfl
  | succ i ih => intro x; exact ih (fd_nx q x)
theorem fd_ctS (hq : q = 1 ∨ q = 2 ∨ q = 4) : ∀ n x, 0 < x → x < (q + 1) ^ 9 → fd_dg q x ≤ n → fd_ct q n x ≤ fd_dg q x ∧ ∀ i, 1 ≤ fd_dg q (fd_it q i x) ↔ i < fd_ct q n x := by
  intro n
  induction n with
  | zero =>
    intro x h0 hx hd
    refine ⟨Nat.zero_le _, fun i => ?_⟩
    rw [fd_it0 (by omega) i]
    show 1 ≤ fd_dg q x ↔ i < 0
    omega
  | succ n ih =>
    intro x h0 hx hd
    rcases Nat.eq_zero_or_pos (fd_dg q x) with z | z
    · have e : fd_ct q (n + 1) x = 0 := by simp only [fd_ct]; rw [if_neg (by omega)]
      rw [e]
      refine ⟨Nat.zero_le _, fun i => ?_⟩
      rw [fd_it0 z i]
      omega
    · have e : fd_ct q (n + 1) x = fd_ct q n (fd_nx q x) + 1 := by simp only [fd_ct]; rw [if_pos (show 1 ≤ fd_dg q x from z)]
      obtain ⟨a1, a2, _, _, _, a6, _⟩ := fd_nxS hq h0 hx z
      obtain ⟨b1, b2⟩ := ih (fd_nx q x) a1 a2 (by omega)
      rw [e]
      refine ⟨by omega, fun i => ?_⟩
      cases i with
      | zero => exact ⟨fun _ => by omega, fun _ => z⟩
      | succ i =>
        have := b2 i
        show 1 ≤ fd_dg q (fd_it q i (fd_nx q x)) ↔ _
        omega
theorem fd_itd (hq : q = 1 ∨ q = 2 ∨ q = 4) {l : Nat} (hl : fd_M q l) : ∀ i x, 0 < x → x < (q + 1) ^ 9 → fd_rm q (fd_it q i x) l = 0 → fd_rm q x l = 0 := by
  intro i
  induction i with
  | zero => intro x _ _ h; exact h
  | succ i ih =>
    intro x h0 hx h
    have k := ih (fd_nx q x) (fd_nxb hq h0 hx).1 (fd_nxb hq h0 hx).2 h
    rcases Nat.eq_zero_or_pos (fd_dg q x) with z | z
    · rw [fd_nx0 z] at k; exact k
    · exact (fd_nxS hq h0 hx z).2.2.2.2.2.2 l hl k
theorem fd_mui (hq : q = 1 ∨ q = 2 ∨ q = 4) {m : Nat} (hI : fd_Ir q m) (k : Nat) : ∀ i x, 0 < x → x < (q + 1) ^ 9 → fd_rm q (fd_it q i x) m = 0 → fd_mu q m k x = fd_mu q m k (fd_it q i x) := by
  intro i
  induction i with
  | zero => intro x _ _ _; rfl
  | succ i ih =>
    intro x h0 hx h
    obtain ⟨n0, n9⟩ := fd_nxb hq h0 hx
    have e := ih (fd_nx q x) n0 n9 h
    show fd_mu q m k x = fd_mu q m k (fd_it q i (fd_nx q x))
    rw [← e]
    rcases Nat.eq_zero_or_pos (fd_dg q x) with z | z
    · rw [fd_nx0 z]
    · have d := fd_itd hq hI.1 i (fd_nx q x) n0 n9 h
      have s := fd_nxS hq h0 hx z
      have F := fd_lfF hq hx z
      have ne : fd_rm q (fd_lf q x) m ≠ 0 := by
        intro y
        have := (fd_FI hq hx F).2 m hI.1 y
        rw [this] at d
        exact s.2.2.1 d
      rw [fd_nx1 z]
      exact fd_mu3 hq hI F.1 ne k 8 x hx
theorem fd_lfm (hq : q = 1 ∨ q = 2 ∨ q = 4) {x : Nat} (h0 : 0 < x) (hx : x < (q + 1) ^ 9) (h1 : 1 ≤ fd_dg q x) (h2 : 1 ≤ fd_dg q (fd_nx q x)) : fd_lf q x ≤ fd_lf q (fd_nx q x) := by
  have F := fd_lfF hq hx h1
  have s := fd_nxS hq h0 hx h1
  have G := fd_lfF hq s.2.1 h2
  rcases Nat.lt_or_ge (fd_lf q (fd_nx q x)) (fd_lf q x) with y | y
  · exact absurd (s.2.2.2.2.2.2 _ G.1 G.2.1) (F.2.2 _ G.1 y)
  · exact y
/-- beside a coefficient the chain is the same -/
theorem fd_Sdg {x y : Nat} (hx : x < (q + 1) ^ 9) (hy : y < (q + 1) ^ 9) (h : fd_S q x y) (h0 : 0 < x) : fd_dg q x = fd_dg q y := by
  unfold fd_dg
  rw [fd_Se hx hy h h0]
theorem fd_Slf (hq : q = 1 ∨ q = 2 ∨ q = 4) {x y : Nat} (hx : x < (q + 1) ^ 9) (hy : y < (q + 1) ^ 9) (h : fd_S q x y) (h0 : 0 < x) : fd_lf q x = fd_lf q y := by
  have e := fd_Sdg hx hy h h0
  rcases Nat.eq_zero_or_pos (fd_dg q x) with z | z
  · rw [fd_lf0 z, fd_lf0 (by omega)]
  · exact fd_Fu (fd_lfF hq hx z) (fd_FS hq hx hy h (fd_lfF hq hy (by omega)))
theorem fd_Snx (hq : q = 1 ∨ q = 2 ∨ q = 4) {x y : Nat} (hx : x < (q + 1) ^ 9) (hy : y < (q + 1) ^ 9) (h : fd_S q x y) (h0 : 0 < x) : fd_S q (fd_nx q x) (fd_nx q y) := by
  have e := fd_Sdg hx hy h h0
  rcases Nat.eq_zero_or_pos (fd_dg q x) with z | z
  · rw [fd_nx0 z, fd_nx0 (by omega)]; exact h
  · rw [fd_nx1 z, fd_nx1 (by omega), fd_Slf hq hx hy h h0]
    exact (fd_woc hq (fd_lfF hq hy (by omega)).1 8 x y hx hy h).1
theorem fd_Sit (hq : q = 1 ∨ q = 2 ∨ q = 4) : ∀ i x y, x < (q + 1) ^ 9 → y < (q + 1) ^ 9 → fd_S q x y → 0 < x → fd_S q (fd_it q i x) (fd_it q i y) := by
  intro i
  induction i with
  | zero => intro x y _ _ h _; exact h
  | succ i ih =>
    intro x y hx hy h h0
    have y0 := fd_S0 hx h h0
    exact ih _ _ (fd_nxb hq h0 hx).2 (fd_nxb hq y0 hy).2 (fd_Snx hq hx hy h h0) (fd_nxb hq h0 hx).1
theorem fd_Sct (hq : q = 1 ∨ q = 2 ∨ q = 4) : ∀ n x y, x < (q + 1) ^ 9 → y < (q + 1) ^ 9 → fd_S q x y → 0 < x → fd_ct q n x = fd_ct q n y := by
  intro n
  induction n with
  | zero => intro x y _ _ _ _; rfl
  | succ n ih =>
    intro x y hx hy h h0
    have y0 := fd_S0 hx h h0
    have e := fd_Sdg hx hy h h0
    simp only [fd_ct]
    rw [e, ih _ _ (fd_nxb hq h0 hx).2 (fd_nxb hq y0 hy).2 (fd_Snx hq hx hy h h0) (fd_nxb hq h0 hx).1]
end
end
section
/-! the product of codes, the radical -/
def fd_pr (q x y : Nat) : Nat → Nat
  | 0 => 0
  | i + 1 => fd_c q (fd_pr q x y i) (y / (q + 1) ^ i % (q + 1)) (x * (q + 1) ^ i) 9
section
variable {q : Nat}
theorem fd_pr9 (x y : Nat) : ∀ n, fd_pr q x y n < (q + 1) ^ 9 := by
  intro n
  cases n with
  | zero => exact fd_pp q 9
  | succ n => exact fd_clt q _ _ _ 9
theorem fd_Dmod (y n : Nat) : fd_D q (y % (q + 1) ^ (n + 1)) = fun i => fd_D q (y % (q + 1) ^ n) i + fs_t n (Fin.ofNat (q + 1) (y / (q + 1) ^ n % (q + 1))) i := by
  have hl := Nat.mod_lt y (fd_pp q n)
  funext i
  rw [Nat.mod_pow_succ, Nat.mul_comm]
  rcases Nat.lt_trichotomy i n with z | z | z
  · have z2 : i ≠ n := by omega
    have e : fd_D q (y % (q + 1) ^ n + y / (q + 1) ^ n % (q + 1) * (q + 1) ^ n) i = fd_D q (y % (q + 1) ^ n) i := by
      apply Fin.ext
      rw [fd_Dv, fd_lo z, fd_Dv]
    rw [e]
    have t : fs_t n (Fin.ofNat (q + 1) (y / (q + 1) ^ n % (q + 1))) i = 0 := by simp [fs_t, z2]
    exact (fs_r7 t).symm
  · subst z
    have e : fd_D q (y % (q + 1) ^ i + y / (q + 1) ^ i % (q + 1) * (q + 1) ^ i) i = Fin.ofNat (q + 1) (y / (q + 1) ^ i % (q + 1)) := by
      have k := fd_hi (b := y / (q + 1) ^ i % (q + 1)) (j := 0) hl
      rw [Nat.add_zero i, Nat.pow_zero, Nat.div_one] at k
      apply Fin.ext
      rw [fd_Dv, k]
      rfl
    have t : fs_t i (Fin.ofNat (q + 1) (y / (q + 1) ^ i % (q + 1))) i = Fin.ofNat (q + 1) (y / (q + 1) ^ i % (q + 1)) := by simp [fs_t]
    rw [e, t]
    exact (fs_rb (fd_D0 hl (Nat.le_refl _))).symm
  · have z2 : i ≠ n := by omega
    have l2 : y % (q + 1) ^ n + y / (q + 1) ^ n % (q + 1) * (q + 1) ^ n < (q + 1) ^ (n + 1) := by
      have := Nat.mod_lt y (fd_pp q (n + 1))
      rw [Nat.mod_pow_succ, Nat.mul_comm] at this
      exact this
    rw [fd_D0 l2 z]
    have t : fs_t n (Fin.ofNat (q + 1) (y / (q + 1) ^ n % (q + 1))) i = 0 := by simp [fs_t, z2]
    exact (fs_r7 t ▸ (fd_D0 hl (by omega)).symm)
theorem fd_Dpr {x y : Nat} (hx : x < (q + 1) ^ 9) (x0 : 0 < x) (y0 : 0 < y) (hy : y < (q + 1) ^ 9) (hd : fd_dg q x + fd_dg q y ≤ 8) : ∀ n, fd_D q (fd_pr q x y n) = fs_m (fd_D q (y % (q + 1) ^ n)) (fd_D q x) := by
  intro n
  induction n with
  | zero =>
    funext i
    rw [Nat.pow_zero, Nat.mod_one]
    show fd_D q 0 i = _
    rw [fd_Dz]
    exact (fs_zl _ i _ (fd_Dz q)).symm
  | succ n ih =>
    rw [fd_Dmod, fs_mdl, fs_mt]
    rcases Nat.eq_zero_or_pos (y / (q + 1) ^ n % (q + 1)) with z | z
    · have e : fd_pr q x y (n + 1) = fd_pr q x y n := by
        show fd_c q (fd_pr q x y n) (y / (q + 1) ^ n % (q + 1)) (x * (q + 1) ^ n) 9 = _
        rw [fd_cp (by rw [z, Nat.zero_mod]) (fd_pr9 x y n)]
      rw [e, ih, z]
      funext i
      exact (fs_r7 (fs_r8 _)).symm
    · have ln : n ≤ fd_dg q y := by
        rcases Nat.lt_or_ge (fd_dg q y) n with w | w
        · rw [fd_low (fd_dgu y0 hy) w, Nat.zero_mod] at z
          omega
        · exact w
      have l9 : x * (q + 1) ^ n < (q + 1) ^ 9 := Nat.lt_of_lt_of_le (fd_Ylt (fd_dgu x0 hx)) (fd_pm q (by omega))
      show fd_D q (fd_c q (fd_pr q x y n) (y / (q + 1) ^ n % (q + 1)) (x * (q + 1) ^ n) 9) = _
      rw [fd_Dc (fd_pr9 x y n) l9, ih, fd_Dsh]
theorem fd_Dprod {x y : Nat} (hx : x < (q + 1) ^ 9) (x0 : 0 < x) (y0 : 0 < y) (hy : y < (q + 1) ^ 9) (hd : fd_dg q x + fd_dg q y ≤ 8) : fd_D q (fd_pr q x y 9) = fs_m (fd_D q x) (fd_D q y) := by
  rw [fd_Dpr hx x0 y0 hy hd, Nat.mod_eq_of_lt hy, fs_mc]
theorem fd_prd (hq : q = 1 ∨ q = 2 ∨ q = 4) {x y : Nat} (hx : x < (q + 1) ^ 9) (x0 : 0 < x) (y0 : 0 < y) (hy : y < (q + 1) ^ 9) (hd : fd_dg q x + fd_dg q y ≤ 8) : 0 < fd_pr q x y 9 ∧ fd_dg q (fd_pr q x y 9) = fd_dg q x + fd_dg q y := by
  have e := fd_Dprod hx x0 y0 hy hd
  have h9 := fd_pr9 (q := q) x y 9
  have p0 : 0 < fd_pr q x y 9 := by
    rcases Nat.eq_zero_or_pos (fd_pr q x y 9) with z | z
    · exfalso
      rw [z] at e
      have k := (fs_deg (fd_D q y) (fd_dg q y) (fd_Dabove y0 hy) (fd_dg q x) (fd_D q x) (fd_Dabove x0 hx)).1
      have k2 : fd_D q 0 (fd_dg q x + fd_dg q y) = fs_cv (fd_dg q x + fd_dg q y) (fd_D q x) (fd_D q y) := congrFun e _
      rw [fd_Dz, k] at k2
      rcases fd_nz hq _ _ k2.symm with w | w
      · exact fd_Dtop x0 hx w
      · exact fd_Dtop y0 hy w
    · exact z
  exact ⟨p0, (fd_degm hq hx hy h9 p0 e).2.2.1⟩
noncomputable def fd_rd (q : Nat) : Nat → Nat → Nat → Nat
  | 0, a, _ => a
  | n + 1, a, x => if 1 ≤ fd_dg q x then fd_rd q n (fd_pr q a (fd_lf q x) 9) (fd_nx q x) else a
theorem fd_rdS (hq : q = 1 ∨ q = 2 ∨ q = 4) : ∀ n a x, 0 < a → a < (q + 1) ^ 9 → 0 < x → x < (q + 1) ^ 9 → fd_dg q a + fd_dg q x ≤ 8 → fd_dg q x ≤ n → 0 < fd_rd q n a x ∧ fd_rd q n a x < (q + 1) ^ 9 ∧ fd_dg q (fd_rd q n a x) ≤ fd_dg q a + fd_dg q x ∧ (fd_dg q (fd_rd q n a x) = fd_dg q a + fd_dg q x ↔ ∀ i, i < fd_ct q n x → fd_mu q (fd_lf q (fd_it q i x)) 8 (fd_it q i x) = 1) := by
  intro n
  induction n with
  | zero =>
    intro a x a0 ha x0 hx h8 hn
    refine ⟨a0, ha, by show fd_dg q a ≤ _; omega, ?_⟩
    show fd_dg q a = _ ↔ ∀ i, i < 0 → _
    refine ⟨fun _ i hi => absurd hi (by omega), fun _ => by omega⟩
  | succ n ih =>
    intro a x a0 ha x0 hx h8 hn
    rcases Nat.eq_zero_or_pos (fd_dg q x) with z | z
    · have e : fd_rd q (n + 1) a x = a := by simp only [fd_rd]; rw [if_neg (by omega)]
      have e2 : fd_ct q (n + 1) x = 0 := by simp only [fd_ct]; rw [if_neg (by omega)]
      rw [e, e2]
      exact ⟨a0, ha, by omega, fun _ i hi => absurd hi (by omega), fun _ => by omega⟩
    · have e : fd_rd q (n + 1) a x = fd_rd q n (fd_pr q a (fd_lf q x) 9) (fd_nx q x) := by simp only [fd_rd]; rw [if_pos (show 1 ≤ fd_dg q x from z)]
      have e2 : fd_ct q (n + 1) x = fd_ct q n (fd_nx q x) + 1 := by simp only [fd_ct]; rw [if_pos (show 1 ≤ fd_dg q x from z)]
      obtain ⟨s1, s2, s3, s4, s5, s6, s7⟩ := fd_nxS hq x0 hx z
      obtain ⟨m0, m9, m1, _⟩ := fd_M0 hq (fd_lfF hq hx z).1
      have w : fd_dg q (fd_lf q x) ≤ fd_mu q (fd_lf q x) 8 x * fd_dg q (fd_lf q x) := Nat.le_mul_of_pos_left _ s5
      obtain ⟨p0, pd⟩ := fd_prd hq ha a0 m0 m9 (by omega)
      obtain ⟨c1, c2, c3, c4⟩ := ih (fd_pr q a (fd_lf q x) 9) (fd_nx q x) p0 (fd_pr9 _ _ 9) s1 s2 (by omega) (by omega)
      rw [e, e2]
      refine ⟨c1, c2, by omega, ?_⟩
      have w2 : fd_mu q (fd_lf q x) 8 x * fd_dg q (fd_lf q x) = fd_dg q (fd_lf q x) ↔ fd_mu q (fd_lf q x) 8 x = 1 := by
        constructor
        · intro h
          have : fd_mu q (fd_lf q x) 8 x * fd_dg q (fd_lf q x) = 1 * fd_dg q (fd_lf q x) := by rw [Nat.one_mul]; exact h
          exact Nat.eq_of_mul_eq_mul_right m1 this
        · intro h
          rw [h, Nat.one_mul]
      constructor
      · intro h i hi
        cases i with
        | zero => exact w2.mp (by omega)
        | succ i => exact c4.mp (by omega) i (by omega)
      · intro h
        have h1 := w2.mpr (h 0 (by omega))
        have h2 := c4.mpr (fun i hi => h (i + 1) (by omega))
        omega
/-- irreducible: the chain has one factor, once -/
theorem fd_irr (hq : q = 1 ∨ q = 2 ∨ q = 4) {x : Nat} (x0 : 0 < x) (hx : x < (q + 1) ^ 9) (h1 : 1 ≤ fd_dg q x) : fd_dg q (fd_lf q x) = fd_dg q x ↔ fd_ct q 8 x = 1 ∧ fd_mu q (fd_lf q x) 8 x = 1 := by
  obtain ⟨s1, s2, s3, s4, s5, s6, s7⟩ := fd_nxS hq x0 hx h1
  obtain ⟨m0, m9, m1, _⟩ := fd_M0 hq (fd_lfF hq hx h1).1
  have e2 : fd_ct q 8 x = fd_ct q 7 (fd_nx q x) + 1 := by
    show (if 1 ≤ fd_dg q x then fd_ct q 7 (fd_nx q x) + 1 else 0) = _
    rw [if_pos h1]
  have h8 := fd_dg8 hx
  have c := (fd_ctS hq 7 (fd_nx q x) s1 s2 (by omega)).2 0
  have c' : 1 ≤ fd_dg q (fd_nx q x) ↔ 0 < fd_ct q 7 (fd_nx q x) := c
  constructor
  · intro h
    rw [h] at s4
    have : fd_mu q (fd_lf q x) 8 x = 1 := by
      rcases Nat.lt_or_ge 1 (fd_mu q (fd_lf q x) 8 x) with w | w
      · have := Nat.mul_le_mul_right (fd_dg q x) w
        omega
      · omega
    rw [this] at s4
    exact ⟨by omega, this⟩
  · intro ⟨h, k⟩
    rw [k] at s4
    omega
end
end
section
/-! what the reference's one pass over the candidates needs; bounds; gcd, derivative, value -/
section
variable {q : Nat}
theorem fd_b9 (hq : q = 1 ∨ q = 2 ∨ q = 4) : (q + 1) ^ 9 ≤ 1953125 := by
  rcases hq with rfl | rfl | rfl <;> decide
theorem fd_bq (hq : q = 1 ∨ q = 2 ∨ q = 4) : q + 1 ≤ 5 := by omega
/-- no monic divisor below c -/
def fd_N (q c y : Nat) : Prop := ∀ l, fd_M q l → l < c → fd_rm q y l ≠ 0
/-- monic or 1 -/
def fd_Y (q y : Nat) : Prop := (q + 1) ^ fd_dg q y ≤ y ∧ y < 2 * (q + 1) ^ fd_dg q y ∧ y < (q + 1) ^ 9
theorem fd_Y0 {y : Nat} (h : fd_Y q y) : 0 < y := Nat.lt_of_lt_of_le (fd_pp q _) h.1
theorem fd_YM {y : Nat} (h : fd_Y q y) (h1 : 1 ≤ fd_dg q y) : fd_M q y := ⟨fd_dg q y, h1, fd_dg8 h.2.2, h.1, h.2.1⟩
theorem fd_Y1 {y : Nat} (h : fd_Y q y) (h1 : fd_dg q y = 0) : y = 1 := by
  obtain ⟨a, b, _⟩ := h
  rw [h1, Nat.pow_zero] at a b
  omega
theorem fd_Y2 (hq : q = 1 ∨ q = 2 ∨ q = 4) {y : Nat} (h : fd_Y q y) (h1 : 1 ≤ fd_dg q y) : 1 < y := by
  have a := h.1
  have b := fd_pm q h1
  rw [Nat.pow_one] at b
  have := fd_q1 hq
  omega
theorem fd_Ymo (hq : q = 1 ∨ q = 2 ∨ q = 4) {x : Nat} (h0 : 0 < x) (hx : x < (q + 1) ^ 9) : fd_Y q (fd_mo q x) := by
  obtain ⟨a, b⟩ := fd_mob hq h0 hx
  have e := (fd_Md hq (fd_dg8 hx) a b).2.2.1
  unfold fd_Y
  rw [e]
  exact ⟨a, b, fd_mo9 x⟩
theorem fd_Yq (hq : q = 1 ∨ q = 2 ∨ q = 4) {y c : Nat} (h : fd_Y q y) (hc : fd_M q c) (hr : fd_rm q y c = 0) : fd_Y q (fd_qt q y c) := by
  have y0 := fd_Y0 h
  obtain ⟨a, b, y9⟩ := h
  obtain ⟨c0, c9, c1, _, c5, _⟩ := fd_M0 hq hc
  obtain ⟨k1, k2, k3, k4⟩ := fd_cof hq y9 y0 c0 c9 hr
  have h9 := fd_qt9 hq y9 c0 c9
  have t := (fd_Md hq (fd_dg8 y9) a b).2.2.2.2
  have e := fd_dvs hq y9 c0 c9 hr
  have w := (fs_deg (fd_D q c) (fd_dg q c) (fd_Dabove c0 c9) _ (fd_D q (fd_qt q y c)) (fd_Dabove k1 h9)).1
  have v : fd_D q y (fd_dg q y) = fs_cv (fd_dg q (fd_qt q y c) + fd_dg q c) (fd_D q (fd_qt q y c)) (fd_D q c) := by
    rw [e, k3]
    rfl
  rw [w, t, c5] at v
  have u : fd_D q (fd_qt q y c) (fd_dg q (fd_qt q y c)) = 1 := fs_re v rfl
  obtain ⟨z1, z2⟩ := fd_mk hq h9 (fd_Dabove k1 h9) u
  exact ⟨z1, z2, h9⟩
theorem fd_Yw (hq : q = 1 ∨ q = 2 ∨ q = 4) {c : Nat} (hc : fd_M q c) : ∀ n y, fd_Y q y → fd_Y q (fd_wo q c n y) := by
  intro n
  induction n with
  | zero => intro y h; exact h
  | succ n ih =>
    intro y h
    simp only [fd_wo]
    rcases Classical.em (fd_rm q y c = 0) with z | z
    · rw [if_pos z]; exact ih _ (fd_Yq hq h hc z)
    · rw [if_neg z]; exact h
theorem fd_ctk (hq : q = 1 ∨ q = 2 ∨ q = 4) {x n k : Nat} (x0 : 0 < x) (hx : x < (q + 1) ^ 9) (hn : fd_dg q x ≤ n) (hk : n ≤ k) : fd_ct q k x = fd_ct q n x := by
  have a := (fd_ctS hq n x x0 hx hn).2
  have b := (fd_ctS hq k x x0 hx (by omega)).2
  have c : ∀ i, i < fd_ct q n x ↔ i < fd_ct q k x := fun i => (a i).symm.trans (b i)
  have c1 := c (fd_ct q n x)
  have c2 := c (fd_ct q k x)
  omega
theorem fd_ct1 (hq : q = 1 ∨ q = 2 ∨ q = 4) {x : Nat} (x0 : 0 < x) (hx : x < (q + 1) ^ 9) (h1 : 1 ≤ fd_dg q x) : fd_ct q 8 x = fd_ct q 8 (fd_nx q x) + 1 := by
  obtain ⟨s1, s2, s3, s4, s5, s6, s7⟩ := fd_nxS hq x0 hx h1
  have h8 := fd_dg8 hx
  rw [fd_ctk hq s1 s2 (show fd_dg q (fd_nx q x) ≤ 7 by omega) (show 7 ≤ 8 by omega)]
  show (if 1 ≤ fd_dg q x then fd_ct q 7 (fd_nx q x) + 1 else 0) = _
  rw [if_pos h1]
theorem fd_ct0 {x : Nat} (h : fd_dg q x = 0) : ∀ n, fd_ct q n x = 0 := by
  intro n
  cases n with
  | zero => rfl
  | succ n =>
    simp only [fd_ct]
    rw [if_neg (by omega)]
/-- how the pass ends: the factors of y, from place j on -/
def fd_G (q y j : Nat) (fa og fa' og' : Nat → Int32) : Prop :=
  (∀ i, i < j → fa' i = fa i ∧ og' i = og i) ∧ ∀ t, t < fd_ct q 8 y → fa' (j + t) = nI (fd_lf q (fd_it q t y)) ∧ og' (j + t) = nI (fd_mu q (fd_lf q (fd_it q t y)) 8 (fd_it q t y))
theorem fd_G1 (hq : q = 1 ∨ q = 2 ∨ q = 4) {y j : Nat} {fa og fa' og' : Nat → Int32} (y0 : 0 < y) (hy : y < (q + 1) ^ 9) (h1 : 1 ≤ fd_dg q y) (h : fd_G q (fd_nx q y) (j + 1) (upd fa j (nI (fd_lf q y))) (upd og j (nI (fd_mu q (fd_lf q y) 8 y))) fa' og') : fd_G q y j fa og fa' og' := by
  obtain ⟨a, b⟩ := h
  refine ⟨fun i hi => ?_, fun t ht => ?_⟩
  · have k := a i (by omega)
    rw [pk_un (by omega), pk_un (by omega)] at k
    exact k
  · cases t with
    | zero =>
      have k := a j (by omega)
      rw [pk_us, pk_us] at k
      exact k
    | succ t =>
      rw [fd_ct1 hq y0 hy h1] at ht
      have k := b t (by omega)
      have e : j + 1 + t = j + (t + 1) := by omega
      rw [e] at k
      exact k
theorem fd_G0 {y j : Nat} {fa og : Nat → Int32} (h : fd_dg q y = 0) : fd_G q y j fa og fa og :=
  ⟨fun _ _ => ⟨rfl, rfl⟩, fun t ht => by rw [fd_ct0 h] at ht; omega⟩
theorem fd_NF (hq : q = 1 ∨ q = 2 ∨ q = 4) {y c : Nat} (y0 : 0 < y) (hy : y < (q + 1) ^ 9) (hN : fd_N q c y) (hc : fd_M q c) (hr : fd_rm q y c = 0) : 1 ≤ fd_dg q y ∧ fd_lf q y = c := by
  obtain ⟨c0, c9, c1, _⟩ := fd_M0 hq hc
  have := (fd_cof hq hy y0 c0 c9 hr).2.2.1
  have h1 : 1 ≤ fd_dg q y := by omega
  exact ⟨h1, fd_Fu (fd_lfF hq hy h1) ⟨hc, hr, hN⟩⟩
theorem fd_Nw (hq : q = 1 ∨ q = 2 ∨ q = 4) {y c : Nat} (y0 : 0 < y) (hy : y < (q + 1) ^ 9) (hN : fd_N q c y) (hc : fd_M q c) : fd_N q (c + 1) (fd_wo q c 8 y) := by
  obtain ⟨a1, a2, a3, a4, a5, a6⟩ := fd_woS hq hc 8 y y0 hy (fd_dg8 hy)
  intro l hl hlc z
  rcases Nat.lt_or_ge l c with w | w
  · exact hN l hl w (a6 l hl z)
  · have : l = c := by omega
    rw [this] at z
    exact a3 z
theorem fd_Ns {y c : Nat} (hN : fd_N q c y) (hr : fd_rm q y c ≠ 0) : fd_N q (c + 1) y := by
  intro l hl hlc z
  rcases Nat.lt_or_ge l c with w | w
  · exact hN l hl w z
  · have : l = c := by omega
    rw [this] at z
    exact hr z
theorem fd_N0 (hq : q = 1 ∨ q = 2 ∨ q = 4) {y : Nat} (y0 : 0 < y) (hy : y < (q + 1) ^ 9) (h : fd_dg q y = 0) (c : Nat) : fd_N q c y := by
  intro l hl _ z
  exact fd_nd hq hl y0 hy (by have := (fd_M0 hq hl).2.2.1; omega) z
theorem fd_Np (hq : q = 1 ∨ q = 2 ∨ q = 4) {y : Nat} : fd_N q (q + 1) y := by
  intro l hl hlc z
  obtain ⟨_, _, c1, _, _, c6, _⟩ := fd_M0 hq hl
  have := fd_pm q c1
  rw [Nat.pow_one] at this
  omega
theorem fd_Nd (hq : q = 1 ∨ q = 2 ∨ q = 4) {y d : Nat} (h : fd_N q (2 * (q + 1) ^ d) y) : fd_N q ((q + 1) ^ (d + 1)) y := by
  intro l hl hlc z
  obtain ⟨_, _, c1, _, _, c6, c7⟩ := fd_M0 hq hl
  refine h l hl ?_ z
  rcases Nat.lt_or_ge d (fd_dg q l) with w | w
  · have := fd_pm q (show d + 1 ≤ fd_dg q l by omega)
    omega
  · have := fd_pm q w
    omega
theorem fd_rfl (hq : q = 1 ∨ q = 2 ∨ q = 4) {y : Nat} (y0 : 0 < y) (hy : y < (q + 1) ^ 9) : fd_rm q y y = 0 := by
  refine fd_self hq hy hy y0 ⟨1, 1, fs_rc 1, ?_⟩
  funext i
  exact (fs_rc _).symm
theorem fd_Ne (hq : q = 1 ∨ q = 2 ∨ q = 4) {y : Nat} (hY : fd_Y q y) (h : fd_N q (2 * (q + 1) ^ 8) y) : fd_dg q y = 0 := by
  rcases Nat.eq_zero_or_pos (fd_dg q y) with z | z
  · exact z
  · exfalso
    refine h y (fd_YM hY z) ?_ (fd_rfl hq (fd_Y0 hY) hY.2.2)
    have := fd_pm q (fd_dg8 hY.2.2)
    have := hY.2.1
    omega
theorem fd_big (hq : q = 1 ∨ q = 2 ∨ q = 4) {y c d l : Nat} (hY : fd_Y q y) (hd : fd_dg q y < 2 * d) (hc : (q + 1) ^ d ≤ c) (hN : fd_N q c y) (hl : fd_M q l) (hr : fd_rm q y l = 0) : l = y := by
  have y0 := fd_Y0 hY
  have y9 := hY.2.2
  obtain ⟨c0, c9, c1, _, c5, c6, c7⟩ := fd_M0 hq hl
  obtain ⟨k1, k2, k3, k4⟩ := fd_cof hq y9 y0 c0 c9 hr
  have key : ∀ m, fd_M q m → fd_rm q y m = 0 → d ≤ fd_dg q m := by
    intro m hm hmr
    rcases Nat.lt_or_ge (fd_dg q m) d with w | w
    · exfalso
      have b := (fd_M0 hq hm).2.2.2.2.2.2
      have b2 := fd_m2 hq b
      have b3 := fd_pm q (show fd_dg q m + 1 ≤ d by omega)
      exact hN m hm (by omega) hmr
    · exact w
  rcases Nat.eq_zero_or_pos (fd_dg q (fd_qt q y l)) with z | z
  · exact (fd_MM hq (fd_YM hY (by omega)) hl hr (by omega)).symm
  · exfalso
    obtain ⟨x1, x2⟩ := fd_moM hq k1 (fd_qt9 hq y9 c0 c9) z
    have a1 := key _ x1 k2
    have a2 := key _ hl hr
    omega
theorem fd_Nbig (hq : q = 1 ∨ q = 2 ∨ q = 4) {y c d : Nat} (hY : fd_Y q y) (hd : fd_dg q y < 2 * d) (hc : (q + 1) ^ d ≤ c) (hN : fd_N q c y) : fd_N q y y ∧ (¬ (1 ≤ fd_dg q y ∧ y < 2 * (q + 1) ^ d ∧ c ≤ y) → fd_N q (2 * (q + 1) ^ d) y) := by
  have y0 := fd_Y0 hY
  have y9 := hY.2.2
  constructor
  · intro l hl hly z
    have := fd_big hq hY hd hc hN hl z
    omega
  · intro hn l hl hll z
    have e := fd_big hq hY hd hc hN hl z
    rcases Nat.eq_zero_or_pos (fd_dg q y) with w | w
    · exact fd_N0 hq y0 y9 w (l + 1) l hl (by omega) z
    · rcases Nat.lt_or_ge y c with v | v
      · exact hN y (fd_YM hY w) v (fd_rfl hq y0 y9)
      · exact hn ⟨w, by omega, v⟩
/-- the common divisor before it is made monic -/
def fd_gc (q : Nat) : Nat → Nat → Nat → Nat
  | 0, u, _ => u
  | n + 1, u, v => if v = 0 then u else fd_gc q n v (fd_rm q u v)
theorem fd_gck (hq : q = 1 ∨ q = 2 ∨ q = 4) : ∀ n u v, u < (q + 1) ^ 9 → v < (q + 1) ^ 9 → fd_ln q v ≤ n → fd_gc q n u v < (q + 1) ^ 9 ∧ ∀ k, n ≤ k → fd_gc q k u v = fd_gc q n u v := by
  intro n
  induction n with
  | zero =>
    intro u v hu hv hn
    have z : v = 0 := by
      rcases Nat.eq_zero_or_pos v with z | z
      · exact z
      · have := fd_lp hv z; omega
    refine ⟨hu, fun k _ => ?_⟩
    cases k with
    | zero => rfl
    | succ k => simp only [fd_gc]; rw [if_pos z]
  | succ n ih =>
    intro u v hu hv hn
    rcases Nat.eq_zero_or_pos v with z | z
    · refine ⟨by simp only [fd_gc]; rw [if_pos z]; exact hu, fun k _ => ?_⟩
      cases k with
      | zero => simp only [fd_gc]; rw [if_pos z]
      | succ k => simp only [fd_gc]; rw [if_pos z, if_pos z]
    · have d1 := (fd_div hq hu z hv).1
      have s9 := fd_rm9 hq hu z hv
      have l1 := fd_ll s9 d1
      have l2 := fd_dg1 z hv
      obtain ⟨a, b⟩ := ih v (fd_rm q u v) hv s9 (by omega)
      have nz : ¬ v = 0 := by omega
      refine ⟨by simp only [fd_gc]; rw [if_neg nz]; exact a, fun k hk => ?_⟩
      cases k with
      | zero => omega
      | succ k => simp only [fd_gc]; rw [if_neg nz, if_neg nz]; exact b k (by omega)
/-- the derivative -/
def fd_de (q x : Nat) : Nat → Nat
  | 0 => 0
  | i + 1 => fd_de q x i + x / (q + 1) ^ (i + 1) % (q + 1) * (i + 1) % (q + 1) * (q + 1) ^ i
theorem fd_del (x : Nat) : ∀ n, fd_de q x n < (q + 1) ^ n := by
  intro n
  induction n with
  | zero => exact Nat.one_pos
  | succ n ih =>
    have h : x / (q + 1) ^ (n + 1) % (q + 1) * (n + 1) % (q + 1) < q + 1 := Nat.mod_lt _ (by omega)
    have h2 := Nat.mul_le_mul_right ((q + 1) ^ n) (Nat.le_of_lt_succ h)
    have e : (q + 1) ^ (n + 1) = q * (q + 1) ^ n + (q + 1) ^ n := by rw [fd_ps, Nat.mul_comm, Nat.succ_mul]
    simp only [fd_de]
    omega
/-- the value -/
def fd_va (q x t : Nat) : Nat → Nat → Nat
  | 0, v => v
  | i + 1, v => fd_va q x t i ((v * t + x / (q + 1) ^ i) % (q + 1))
theorem fd_vam (q x t i v : Nat) : (v * t + x / (q + 1) ^ i % (q + 1)) % (q + 1) = (v * t + x / (q + 1) ^ i) % (q + 1) := by
  rw [Nat.add_mod, Nat.mod_mod, ← Nat.add_mod]
end
end
section
/-! X's own methods, the arithmetic, against the pure functions -/
def fw_P (q : Nat) (pw : Nat → Int32) : Prop := ∀ i, i < 10 → pw i = nI ((q + 1) ^ i)
section
variable {q : Nat} {pw rg : Nat → Int32}
theorem fw_b (hq : q = 1 ∨ q = 2 ∨ q = 4) {x : Nat} (hx : x < (q + 1) ^ 9) : x < 2 ^ 31 := by
  have := fd_b9 hq
  omega
theorem fw_pl (hq : q = 1 ∨ q = 2 ∨ q = 4) {i : Nat} (hi : i < 10) : (q + 1) ^ i < 2 ^ 31 := by
  have := fd_b9 hq
  have := fd_pm q (show i ≤ 9 by omega)
  omega
theorem fw_at (h : fw_P q pw) {i : Nat} (hi : i < 10) : pw (nI i).toNatClampNeg = nI ((q + 1) ^ i) := by
  rw [nI_clamp (by omega)]
  exact h i hi
theorem fw_nz (hq : q = 1 ∨ q = 2 ∨ q = 4) (h : fw_P q pw) {i : Nat} (hi : i < 10) : ¬ pw (nI i).toNatClampNeg = 0 := by
  rw [fw_at h hi]
  exact nI_ne0 (fd_pp q i) (fw_pl hq hi)
theorem fw_m (hq : q = 1 ∨ q = 2 ∨ q = 4) : ¬ nI (q + 1) = 0 := nI_ne0 (by omega) (by omega)
theorem fw_dl {x d : Nat} (hx : x < 2 ^ 31) : x / d < 2 ^ 31 := Nat.lt_of_le_of_lt (Nat.div_le_self x d) hx
theorem xw_deg3 {x : Nat} {post : Int32 → Prop} {m : Int32} (hq : q = 1 ∨ q = 2 ∨ q = 4) (hp : fw_P q pw) (hx : x < 2 ^ 31) : ∀ k n, k ≤ 9 → k < n → post (nI (fd_L q x k) + (-1)) → wX_degreeOf_3 post (nI x) m pw rg n (nI k + (-1)) := by
  intro k
  induction k with
  | zero =>
    intro n _ hn h
    obtain ⟨n, rfl⟩ : ∃ j, n = j + 1 := ⟨n - 1, by omega⟩
    exact br_t (by decide) h
  | succ k ih =>
    intro n hk hn h
    obtain ⟨n, rfl⟩ : ∃ j, n = j + 1 := ⟨n - 1, by omega⟩
    simp only [fd_L] at h
    rw [pk_m1]
    refine br_f (nI_pos (by omega)) ⟨vp_in_nI (by omega) (by omega), ?_⟩
    refine pk_le ((q + 1) ^ k) x (fun z => ?_) (fun z => nm_e (ih n (by omega) (by omega) ?_)) (fw_at hp (by omega)) rfl (fw_pl hq (by omega)) hx
    · rw [if_pos z, pk_m1] at h
      exact h
    · rw [if_neg (by omega)] at h
      exact h
theorem xw_deg {x : Nat} {post : Int32 → Prop} (hq : q = 1 ∨ q = 2 ∨ q = 4) (hp : fw_P q pw) (hx : x < (q + 1) ^ 9) (h : post (nI (fd_ln q x) + (-1))) : wpX_degreeOf post (nI (q + 1), pw, rg) (nI x) := by
  have e : (8 : Int32) = nI 9 + (-1) := by decide
  show ∃ n, wX_degreeOf_3 post (nI x) (nI (q + 1)) pw rg n 8
  rw [e]
  exact ⟨10, xw_deg3 hq hp (fw_b hq hx) 9 10 (by omega) (by omega) h⟩
theorem fd_ln0 (q : Nat) : fd_ln q 0 = 0 := by
  have := fd_ll (q := q) (x := 0) (n := 0) (fd_pp q 9) (fd_pp q 0)
  omega
theorem fw_dI {x : Nat} (h0 : 0 < x) (hx : x < (q + 1) ^ 9) : nI (fd_ln q x) + (-1) = nI (fd_dg q x) := by
  rw [← fd_dg1 h0 hx, pk_m1]
theorem fw_d0 : nI (fd_ln q 0) + (-1) = -1 := by
  rw [fd_ln0]
  decide
theorem xw_degp {x : Nat} {post : Int32 → Prop} (hq : q = 1 ∨ q = 2 ∨ q = 4) (hp : fw_P q pw) (h0 : 0 < x) (hx : x < (q + 1) ^ 9) (h : post (nI (fd_dg q x))) : wpX_degreeOf post (nI (q + 1), pw, rg) (nI x) :=
  xw_deg hq hp hx (by rw [fw_dI h0 hx]; exact h)
theorem xw_deg0 {post : Int32 → Prop} (hq : q = 1 ∨ q = 2 ∨ q = 4) (hp : fw_P q pw) (h : post (-1)) : wpX_degreeOf post (nI (q + 1), pw, rg) (nI 0) :=
  xw_deg hq hp (fd_pp q 9) (by rw [fw_d0]; exact h)
theorem xw_c6 {x k y : Nat} {post : Int32 → Prop} (hq : q = 1 ∨ q = 2 ∨ q = 4) (hp : fw_P q pw) (hx : x < (q + 1) ^ 9) (hy : y < (q + 1) ^ 9) (hk : k ≤ 5) (h : post (nI (fd_c q x k y 9))) : ∀ d i n, i + d = 9 → d < n → wX_combine_6 post (nI x) (nI k) (nI y) (nI (q + 1)) pw rg n (nI (fd_c q x k y i)) (nI i) := by
  have b9 := fd_b9 hq
  intro d
  induction d with
  | zero =>
    intro i n hi hn
    obtain ⟨n, rfl⟩ : ∃ j, n = j + 1 := ⟨n - 1, by omega⟩
    have e : i = 9 := by omega
    subst e
    exact br_t (nI_le (a := 9) (b := 9) (by omega) (by omega)) h
  | succ d ih =>
    intro i n hi hn
    obtain ⟨n, rfl⟩ : ∃ j, n = j + 1 := ⟨n - 1, by omega⟩
    have hin : vp_in (nI i) 10 := vp_in_nI (by omega) (by omega)
    have hz := fw_nz hq hp (show i < 10 by omega)
    have e := fw_at hp (show i < 10 by omega)
    have bx : x / (q + 1) ^ i ≤ x := Nat.div_le_self _ _
    have byy : y / (q + 1) ^ i ≤ y := Nat.div_le_self _ _
    have bk : k * (y / (q + 1) ^ i) ≤ 5 * y := Nat.mul_le_mul hk byy
    refine br_f (nI_ge (b := 9) (by omega) (by omega)) ⟨hin, hz, hin, hz, fw_m hq, nm_r (e' := nI ((x / (q + 1) ^ i + k * (y / (q + 1) ^ i)) % (q + 1))) ?_ ⟨hin, nm_r (e' := nI (fd_c q x k y (i + 1))) ?_ (nm_r (nI_1 i) (ih (i + 1) n (by omega) (by omega)))⟩⟩
    · rw [e, pk_div (by omega) (fd_pp q i) (fw_pl hq (by omega)), pk_div (by omega) (fd_pp q i) (fw_pl hq (by omega)), pk_mul, nI_add, pk_rem (by omega) (by omega) (by omega)]
    · rw [e, pk_mul, nI_add]
      rfl
theorem xw_c {x k y : Nat} {post : Int32 → Prop} (hq : q = 1 ∨ q = 2 ∨ q = 4) (hp : fw_P q pw) (hx : x < (q + 1) ^ 9) (hy : y < (q + 1) ^ 9) (hk : k ≤ 5) (h : post (nI (fd_c q x k y 9))) : wpX_combine post (nI (q + 1), pw, rg) (nI x) (nI k) (nI y) :=
  ⟨10, xw_c6 hq hp hx hy hk h 9 0 10 (by omega) (by omega)⟩
theorem xw_p5 {x y : Nat} {post : Int32 → Prop} (hq : q = 1 ∨ q = 2 ∨ q = 4) (hp : fw_P q pw) (hx : x < (q + 1) ^ 9) (hy : y < (q + 1) ^ 9) (hd : ∀ i, i < 9 → y / (q + 1) ^ i % (q + 1) ≠ 0 → x * (q + 1) ^ i < (q + 1) ^ 9) (h : post (nI (fd_pr q x y 9))) : ∀ d i n, i + d = 9 → d < n → wX_productOf_5 post (nI x) (nI y) (nI (q + 1)) pw rg n (nI (fd_pr q x y i)) (nI i) := by
  have b9 := fd_b9 hq
  have q5 := fd_bq hq
  intro d
  induction d with
  | zero =>
    intro i n hi hn
    obtain ⟨n, rfl⟩ : ∃ j, n = j + 1 := ⟨n - 1, by omega⟩
    have e : i = 9 := by omega
    subst e
    exact br_t (nI_le (a := 9) (b := 9) (by omega) (by omega)) h
  | succ d ih =>
    intro i n hi hn
    obtain ⟨n, rfl⟩ : ∃ j, n = j + 1 := ⟨n - 1, by omega⟩
    have hin : vp_in (nI i) 10 := vp_in_nI (by omega) (by omega)
    have hz := fw_nz hq hp (show i < 10 by omega)
    have e := fw_at hp (show i < 10 by omega)
    have byy : y / (q + 1) ^ i ≤ y := Nat.div_le_self _ _
    have hm : y / (q + 1) ^ i % (q + 1) < q + 1 := Nat.mod_lt _ (by omega)
    refine br_f (nI_ge (b := 9) (by omega) (by omega)) ⟨hin, hz, fw_m hq, nm_r (e' := nI (y / (q + 1) ^ i % (q + 1))) ?_ ?_⟩
    · rw [e, pk_div (by omega) (fd_pp q i) (fw_pl hq (by omega)), pk_rem (by omega) (by omega) (by omega)]
    · refine pk_eq (y / (q + 1) ^ i % (q + 1)) 0 (fun z => nm_r (nI_1 i) ?_) (fun z => ⟨hin, ?_⟩) rfl rfl (by omega) (by omega)
      · have e2 : fd_pr q x y (i + 1) = fd_pr q x y i := by
          show fd_c q (fd_pr q x y i) (y / (q + 1) ^ i % (q + 1)) (x * (q + 1) ^ i) 9 = _
          rw [fd_cp (by rw [z, Nat.zero_mod]) (fd_pr9 x y i)]
        have k := ih (i + 1) n (by omega) (by omega)
        rw [e2] at k
        exact k
      · rw [e, pk_mul]
        exact xw_c hq hp (fd_pr9 x y i) (hd i (by omega) z) (by omega) (nm_r (nI_1 i) (ih (i + 1) n (by omega) (by omega)))
theorem xw_p {x y : Nat} {post : Int32 → Prop} (hq : q = 1 ∨ q = 2 ∨ q = 4) (hp : fw_P q pw) (hx : x < (q + 1) ^ 9) (hy : y < (q + 1) ^ 9) (hd : ∀ i, i < 9 → y / (q + 1) ^ i % (q + 1) ≠ 0 → x * (q + 1) ^ i < (q + 1) ^ 9) (h : post (nI (fd_pr q x y 9))) : wpX_productOf post (nI (q + 1), pw, rg) (nI x) (nI y) :=
  ⟨10, xw_p5 hq hp hx hy hd h 9 0 10 (by omega) (by omega)⟩
theorem fw_pd {x y : Nat} (h0 : 0 < x) (hx : x < (q + 1) ^ 9) (y0 : 0 < y) (hy : y < (q + 1) ^ 9) (hd : fd_dg q x + fd_dg q y ≤ 8) : ∀ i, i < 9 → y / (q + 1) ^ i % (q + 1) ≠ 0 → x * (q + 1) ^ i < (q + 1) ^ 9 := by
  intro i _ z
  have ln : i ≤ fd_dg q y := by
    rcases Nat.lt_or_ge (fd_dg q y) i with w | w
    · rw [fd_low (fd_dgu y0 hy) w, Nat.zero_mod] at z
      exact absurd rfl z
    · exact w
  exact Nat.lt_of_lt_of_le (fd_Ylt (fd_dgu h0 hx)) (fd_pm q (by omega))
theorem xw_i2 {k : Nat} {post : Int32 → Prop} {pw rg : Nat → Int32} (hq : q = 1 ∨ q = 2 ∨ q = 4) (hk : k < q + 1) (h1 : 1 ≤ k) (h : post (nI (fd_iv q k))) : ∀ d c n, 1 ≤ c → c + d = fd_iv q k → d < n → wX_inverseOf_2 post (nI k) (nI (q + 1)) pw rg n (nI c) := by
  obtain ⟨i1, i2, i3, i4⟩ := fd_ivd q hq k hk h1
  have q5 := fd_bq hq
  intro d
  induction d with
  | zero =>
    intro c n hc hd hn
    obtain ⟨n, rfl⟩ : ∃ j, n = j + 1 := ⟨n - 1, by omega⟩
    have e : c = fd_iv q k := by omega
    have b : c * k ≤ 5 * 5 := Nat.mul_le_mul (by omega) (by omega)
    refine br_f (nI_ge (by omega) (by omega)) ⟨fw_m hq, pk_eq (c * k % (q + 1)) 1 (fun _ => by rw [e]; exact h) (fun z => ?_) (by rw [pk_mul, pk_rem (by omega) (by omega) (by omega)]) rfl (by have := Nat.mod_lt (c * k) (show 0 < q + 1 by omega); omega) (by omega)⟩
    exfalso
    apply z
    rw [e, Nat.mul_comm]
    exact i3
  | succ d ih =>
    intro c n hc hd hn
    obtain ⟨n, rfl⟩ : ∃ j, n = j + 1 := ⟨n - 1, by omega⟩
    have b : c * k ≤ 5 * 5 := Nat.mul_le_mul (by omega) (by omega)
    refine br_f (nI_ge (by omega) (by omega)) ⟨fw_m hq, pk_eq (c * k % (q + 1)) 1 (fun z => ?_) (fun z => nm_r (nI_1 c) (ih (c + 1) n (by omega) (by omega) (by omega))) (by rw [pk_mul, pk_rem (by omega) (by omega) (by omega)]) rfl (by have := Nat.mod_lt (c * k) (show 0 < q + 1 by omega); omega) (by omega)⟩
    exfalso
    have := i4 c (by omega) z
    omega
theorem xw_i {k : Nat} {post : Int32 → Prop} (hq : q = 1 ∨ q = 2 ∨ q = 4) (hk : k < q + 1) (h1 : 1 ≤ k) (h : post (nI (fd_iv q k))) : wpX_inverseOf post (nI (q + 1), pw, rg) (nI k) := by
  obtain ⟨i1, i2, i3, i4⟩ := fd_ivd q hq k hk h1
  exact ⟨6, xw_i2 hq hk h1 h (fd_iv q k - 1) 1 6 (by omega) (by omega) (by have := fd_bq hq; omega)⟩
theorem fw_st {d v y i Q R : Nat} : fd_st q d v y i (Q, R) = (Q + R / (q + 1) ^ (d + i) * v % (q + 1) * (q + 1) ^ i, fd_c q R (q + 1 - R / (q + 1) ^ (d + i) * v % (q + 1)) (y * (q + 1) ^ i) 9) := rfl
theorem xw_q41 {d v y : Nat} {post : Int32 → Prop} (hq : q = 1 ∨ q = 2 ∨ q = 4) (hp : fw_P q pw) (hy : y < (q + 1) ^ (d + 1)) (hv : v < q + 1) : ∀ k n Q R, d + k ≤ 9 → k < n → R < (q + 1) ^ 9 → post (nI (fd_dv q d v y k (Q, R)).1) → wX_quotientOf_41 post (nI y) (nI d) (nI v) (nI (q + 1)) pw rg n (nI Q) (nI R) (nI k + (-1)) := by
  have b9 := fd_b9 hq
  have q5 := fd_bq hq
  intro k
  induction k with
  | zero =>
    intro n Q R _ hn _ h
    obtain ⟨n, rfl⟩ : ∃ j, n = j + 1 := ⟨n - 1, by omega⟩
    exact br_t (by decide) h
  | succ k ih =>
    intro n Q R hk hn hR h
    obtain ⟨n, rfl⟩ : ∃ j, n = j + 1 := ⟨n - 1, by omega⟩
    rw [pk_m1]
    have e := fw_at hp (show d + k < 10 by omega)
    have e2 := fw_at hp (show k < 10 by omega)
    have bR : R / (q + 1) ^ (d + k) ≤ R := Nat.div_le_self _ _
    have bv : R / (q + 1) ^ (d + k) * v ≤ R * 5 := Nat.mul_le_mul bR (by omega)
    have hc : R / (q + 1) ^ (d + k) * v % (q + 1) < q + 1 := Nat.mod_lt _ (by omega)
    have hY9 : y * (q + 1) ^ k < (q + 1) ^ 9 := Nat.lt_of_lt_of_le (fd_Ylt hy) (fd_pm q (by omega))
    have hin : vp_in (nI k) 10 := vp_in_nI (by omega) (by omega)
    refine br_f (nI_pos (by omega)) ⟨by rw [nI_add]; exact vp_in_nI (by omega) (by omega), by rw [nI_add]; exact fw_nz hq hp (by omega), fw_m hq, nm_r (e' := nI (R / (q + 1) ^ (d + k) * v % (q + 1))) ?_ ⟨hin, nm_r (e' := nI (Q + R / (q + 1) ^ (d + k) * v % (q + 1) * (q + 1) ^ k)) ?_ ⟨hin, ?_⟩⟩⟩
    · rw [nI_add, e, pk_div (by omega) (fd_pp q _) (fw_pl hq (by omega)), pk_mul, pk_rem (by omega) (by omega) (by omega)]
    · rw [e2, pk_mul, nI_add]
    · rw [e2, pk_mul, pk_sub (by omega)]
      exact xw_c hq hp hR hY9 (by omega) (nm_e (ih n _ _ (by omega) (by omega) (fd_clt q _ _ _ 9) h))
theorem xw_r38 {d v y : Nat} {post : Int32 → Prop} (hq : q = 1 ∨ q = 2 ∨ q = 4) (hp : fw_P q pw) (hy : y < (q + 1) ^ (d + 1)) (hv : v < q + 1) : ∀ k n Q R, d + k ≤ 9 → k < n → R < (q + 1) ^ 9 → post (nI (fd_dv q d v y k (Q, R)).2) → wX_remainderOf_38 post (nI y) (nI d) (nI v) (nI (q + 1)) pw rg n (nI R) (nI k + (-1)) := by
  have b9 := fd_b9 hq
  have q5 := fd_bq hq
  intro k
  induction k with
  | zero =>
    intro n Q R _ hn _ h
    obtain ⟨n, rfl⟩ : ∃ j, n = j + 1 := ⟨n - 1, by omega⟩
    exact br_t (by decide) h
  | succ k ih =>
    intro n Q R hk hn hR h
    obtain ⟨n, rfl⟩ : ∃ j, n = j + 1 := ⟨n - 1, by omega⟩
    rw [pk_m1]
    have e := fw_at hp (show d + k < 10 by omega)
    have e2 := fw_at hp (show k < 10 by omega)
    have bR : R / (q + 1) ^ (d + k) ≤ R := Nat.div_le_self _ _
    have bv : R / (q + 1) ^ (d + k) * v ≤ R * 5 := Nat.mul_le_mul bR (by omega)
    have hc : R / (q + 1) ^ (d + k) * v % (q + 1) < q + 1 := Nat.mod_lt _ (by omega)
    have hY9 : y * (q + 1) ^ k < (q + 1) ^ 9 := Nat.lt_of_lt_of_le (fd_Ylt hy) (fd_pm q (by omega))
    have hin : vp_in (nI k) 10 := vp_in_nI (by omega) (by omega)
    refine br_f (nI_pos (by omega)) ⟨by rw [nI_add]; exact vp_in_nI (by omega) (by omega), by rw [nI_add]; exact fw_nz hq hp (by omega), fw_m hq, nm_r (e' := nI (R / (q + 1) ^ (d + k) * v % (q + 1))) ?_ ⟨hin, ?_⟩⟩
    · rw [nI_add, e, pk_div (by omega) (fd_pp q _) (fw_pl hq (by omega)), pk_mul, pk_rem (by omega) (by omega) (by omega)]
    · rw [e2, pk_mul, pk_sub (by omega)]
      exact xw_c hq hp hR hY9 (by omega) (nm_e (ih n _ _ (by omega) (by omega) (fd_clt q _ _ _ 9) h))
theorem fw_sh1 {a d : Nat} (h : d ≤ a) : nI a + (-1) - nI d = nI (a - d) + (-1) := by
  obtain ⟨c, rfl⟩ : ∃ c, a = c + d := ⟨a - d, by omega⟩
  rw [Nat.add_sub_cancel, ← nI_add]
  grind
theorem fw_sh0 {a d : Nat} (h : a ≤ d) (hd : d < 1000) : nI a + (-1) - nI d < 0 := by
  have e : nI a + (-1) - nI d = nI a - nI (d + 1) := by
    rw [← nI_1]
    grind
  rw [e]
  exact pk_sneg (by omega) (by omega)
theorem fw_qr {x y : Nat} (hx : x < (q + 1) ^ 9) (hy : y < (q + 1) ^ 9) (h : fd_dg q y ≤ fd_ln q x) : fd_qr q x y = fd_dv q (fd_dg q y) (fd_iv q (fd_ld q y)) y (fd_ln q x - fd_dg q y) (0, x) := by
  have h9 := fd_l9 hx
  have k := fd_dv0 (q := q) (d := fd_dg q y) (v := fd_iv q (fd_ld q y)) (y := y) (i := fd_ln q x - fd_dg q y) (s := (0, x)) (by show x < _; rw [Nat.add_sub_cancel' h]; exact fd_l1 hx) (9 - fd_ln q x) (by omega)
  rw [← k]
  unfold fd_qr
  congr 1
  omega
theorem fw_qr0 {x y : Nat} (hx : x < (q + 1) ^ 9) (hy : y < (q + 1) ^ 9) (h : fd_ln q x ≤ fd_dg q y) : fd_qr q x y = (0, x) := by
  have h9 := fd_dg8 hy
  have k := fd_dv0 (q := q) (d := fd_dg q y) (v := fd_iv q (fd_ld q y)) (y := y) (i := 0) (s := (0, x)) (by show x < _; exact Nat.lt_of_lt_of_le (fd_l1 hx) (fd_pm q (by omega))) (9 - fd_dg q y) (by omega)
  rw [Nat.zero_add] at k
  exact k
theorem xw_q {x y : Nat} {post : Int32 → Prop} (hq : q = 1 ∨ q = 2 ∨ q = 4) (hp : fw_P q pw) (hx : x < (q + 1) ^ 9) (y0 : 0 < y) (hy : y < (q + 1) ^ 9) (h : post (nI (fd_qt q x y))) : wpX_quotientOf post (nI (q + 1), pw, rg) (nI x) (nI y) := by
  have d8 := fd_dg8 hy
  obtain ⟨l1, l2⟩ := fd_ldb y0 hy
  have e := fw_at hp (show fd_dg q y < 10 by omega)
  unfold wpX_quotientOf
  refine xw_degp hq hp y0 hy (br_t (nI_pos' (by omega)) ⟨vp_in_nI (by omega) (by omega), fw_nz hq hp (by omega), ?_⟩)
  rw [e, pk_div (fw_b hq hy) (fd_pp q _) (fw_pl hq (by omega))]
  refine xw_i hq l2 l1 (xw_deg hq hp hx ?_)
  unfold fd_qt at h
  rcases Nat.lt_or_ge (fd_ln q x) (fd_dg q y) with z | z
  · rw [fw_qr0 hx hy (by omega)] at h
    exact nm_e ⟨1, br_t (fw_sh0 (by omega) (by omega)) h⟩
  · rw [fw_qr hx hy z] at h
    have l9 := fd_l9 hx
    exact nm_r (fw_sh1 z) ⟨10, xw_q41 hq hp (fd_dgu y0 hy) (fd_ivd q hq _ l2 l1).2.1 _ 10 0 x (by omega) (by omega) hx h⟩
theorem xw_r {x y : Nat} {post : Int32 → Prop} (hq : q = 1 ∨ q = 2 ∨ q = 4) (hp : fw_P q pw) (hx : x < (q + 1) ^ 9) (y0 : 0 < y) (hy : y < (q + 1) ^ 9) (h : post (nI (fd_rm q x y))) : wpX_remainderOf post (nI (q + 1), pw, rg) (nI x) (nI y) := by
  have d8 := fd_dg8 hy
  obtain ⟨l1, l2⟩ := fd_ldb y0 hy
  have e := fw_at hp (show fd_dg q y < 10 by omega)
  unfold wpX_remainderOf
  refine xw_degp hq hp y0 hy (br_t (nI_pos' (by omega)) ⟨vp_in_nI (by omega) (by omega), fw_nz hq hp (by omega), ?_⟩)
  rw [e, pk_div (fw_b hq hy) (fd_pp q _) (fw_pl hq (by omega))]
  refine xw_i hq l2 l1 (xw_deg hq hp hx ?_)
  unfold fd_rm at h
  rcases Nat.lt_or_ge (fd_ln q x) (fd_dg q y) with z | z
  · rw [fw_qr0 hx hy (by omega)] at h
    exact nm_e ⟨1, br_t (fw_sh0 (by omega) (by omega)) h⟩
  · rw [fw_qr hx hy z] at h
    have l9 := fd_l9 hx
    exact nm_r (fw_sh1 z) ⟨10, xw_r38 hq hp (fd_dgu y0 hy) (fd_ivd q hq _ l2 l1).2.1 _ 10 0 x (by omega) (by omega) hx h⟩
theorem fd_mo0 (q : Nat) : fd_mo q 0 = 0 := by
  refine fd_inj (fd_mo9 0) (fd_pp q 9) (funext fun i => ?_)
  rw [fd_Dmo (fd_pp q 9)]
  show Fin.ofNat (q + 1) (fd_iv q (fd_ld q 0)) * fd_D q 0 i = fd_D q 0 i
  rw [fd_Dz]
  exact fs_rz (K := Fin (q + 1)) _
theorem xw_mo {x : Nat} {post : Int32 → Prop} (hq : q = 1 ∨ q = 2 ∨ q = 4) (hp : fw_P q pw) (hx : x < (q + 1) ^ 9) (h : post (nI (fd_mo q x))) : wpX_monicOf post (nI (q + 1), pw, rg) (nI x) := by
  unfold wpX_monicOf
  rcases Nat.eq_zero_or_pos x with z | z
  · subst z
    rw [fd_mo0] at h
    exact xw_deg0 hq hp (br_f (by decide) h)
  · obtain ⟨l1, l2⟩ := fd_ldb z hx
    have d8 := fd_dg8 hx
    have e := fw_at hp (show fd_dg q x < 10 by omega)
    refine xw_degp hq hp z hx (br_t (nI_pos' (by omega)) ⟨vp_in_nI (by omega) (by omega), fw_nz hq hp (by omega), ?_⟩)
    rw [e, pk_div (fw_b hq hx) (fd_pp q _) (fw_pl hq (by omega))]
    have i2 := (fd_ivd q hq _ l2 l1).2.1
    have q5 := fd_bq hq
    exact xw_i hq l2 l1 (xw_c (x := 0) hq hp (fd_pp q 9) hx (show fd_iv q (fd_ld q x) ≤ 5 by omega) h)
theorem xw_g8 {post : Int32 → Prop} (hq : q = 1 ∨ q = 2 ∨ q = 4) (hp : fw_P q pw) : ∀ d i n u v, i + d = 10 → d < n → u < (q + 1) ^ 9 → v < (q + 1) ^ 9 → post (nI (fd_mo q (fd_gc q d u v))) → wX_commonDivisorOf_8 post (nI (q + 1)) pw rg n (nI u) (nI v) (nI i) := by
  intro d
  induction d with
  | zero =>
    intro i n u v hi hn hu hv h
    obtain ⟨n, rfl⟩ : ∃ j, n = j + 1 := ⟨n - 1, by omega⟩
    exact br_t (nI_lt (a := 9) (by omega) (by omega)) (xw_mo hq hp hu h)
  | succ d ih =>
    intro i n u v hi hn hu hv h
    obtain ⟨n, rfl⟩ : ∃ j, n = j + 1 := ⟨n - 1, by omega⟩
    simp only [fd_gc] at h
    refine br_f (nI_nlt (b := i) (a := 9) (by omega) (by omega)) (pk_eq v 0 (fun z => ?_) (fun z => ?_) rfl rfl (fw_b hq hv) (by omega))
    · rw [if_pos z] at h
      exact xw_mo hq hp hu h
    · rw [if_neg z] at h
      have z0 : 0 < v := Nat.pos_of_ne_zero z
      exact xw_r hq hp hu z0 hv (nm_r (nI_1 i) (ih (i + 1) n v _ (by omega) (by omega) hv (fd_rm9 hq hu z0 hv) h))
theorem xw_g {u v : Nat} {post : Int32 → Prop} (hq : q = 1 ∨ q = 2 ∨ q = 4) (hp : fw_P q pw) (hu : u < (q + 1) ^ 9) (hv : v < (q + 1) ^ 9) (h : post (nI (fd_mo q (fd_gc q 10 u v)))) : wpX_commonDivisorOf post (nI (q + 1), pw, rg) (nI u) (nI v) :=
  ⟨11, xw_g8 hq hp 10 0 11 u v (by omega) (by omega) hu hv h⟩
theorem xw_d4 {x : Nat} {post : Int32 → Prop} (hq : q = 1 ∨ q = 2 ∨ q = 4) (hp : fw_P q pw) (hx : x < (q + 1) ^ 9) (h : post (nI (fd_de q x 8))) : ∀ d i n, i + d = 8 → d < n → wX_derivativeOf_4 post (nI x) (nI (q + 1)) pw rg n (nI (fd_de q x i)) (nI i) := by
  have b9 := fd_b9 hq
  have q5 := fd_bq hq
  intro d
  induction d with
  | zero =>
    intro i n hi hn
    obtain ⟨n, rfl⟩ : ∃ j, n = j + 1 := ⟨n - 1, by omega⟩
    have e : i = 8 := by omega
    subst e
    exact br_t (nI_le (a := 8) (b := 8) (by omega) (by omega)) h
  | succ d ih =>
    intro i n hi hn
    obtain ⟨n, rfl⟩ : ∃ j, n = j + 1 := ⟨n - 1, by omega⟩
    have e := fw_at hp (show i < 10 by omega)
    have e1 := fw_at hp (show i + 1 < 10 by omega)
    have bx : x / (q + 1) ^ (i + 1) ≤ x := Nat.div_le_self _ _
    have hm : x / (q + 1) ^ (i + 1) % (q + 1) < q + 1 := Nat.mod_lt _ (by omega)
    have bm : x / (q + 1) ^ (i + 1) % (q + 1) * (i + 1) ≤ 5 * 8 := Nat.mul_le_mul (by omega) (by omega)
    refine br_f (nI_ge (b := 8) (by omega) (by omega)) ⟨by rw [nI_1]; exact vp_in_nI (by omega) (by omega), by rw [nI_1]; exact fw_nz hq hp (by omega), fw_m hq, fw_m hq, nm_r (e' := nI (x / (q + 1) ^ (i + 1) % (q + 1) * (i + 1) % (q + 1))) ?_ ⟨vp_in_nI (by omega) (by omega), nm_r (e' := nI (fd_de q x (i + 1))) ?_ (nm_r (nI_1 i) (ih (i + 1) n (by omega) (by omega)))⟩⟩
    · rw [nI_1, e1, pk_div (by omega) (fd_pp q _) (fw_pl hq (by omega)), pk_rem (by omega) (by omega) (by omega), pk_mul, pk_rem (by omega) (by omega) (by omega)]
    · rw [e, pk_mul, nI_add]
      rfl
theorem xw_d {x : Nat} {post : Int32 → Prop} (hq : q = 1 ∨ q = 2 ∨ q = 4) (hp : fw_P q pw) (hx : x < (q + 1) ^ 9) (h : post (nI (fd_de q x 8))) : wpX_derivativeOf post (nI (q + 1), pw, rg) (nI x) :=
  ⟨9, xw_d4 hq hp hx h 8 0 9 (by omega) (by omega)⟩
theorem xw_v6 {x t : Nat} {post : Int32 → Prop} (hq : q = 1 ∨ q = 2 ∨ q = 4) (hp : fw_P q pw) (hx : x < (q + 1) ^ 9) (ht : t < q + 1) : ∀ k n v, k ≤ 9 → k < n → v < q + 1 → post (nI (fd_va q x t k v)) → wX_valueOf_6 post (nI x) (nI t) (nI (q + 1)) pw rg n (nI v) (nI k + (-1)) := by
  have b9 := fd_b9 hq
  have q5 := fd_bq hq
  intro k
  induction k with
  | zero =>
    intro n v _ hn _ h
    obtain ⟨n, rfl⟩ : ∃ j, n = j + 1 := ⟨n - 1, by omega⟩
    exact br_t (by decide) h
  | succ k ih =>
    intro n v hk hn hv h
    obtain ⟨n, rfl⟩ : ∃ j, n = j + 1 := ⟨n - 1, by omega⟩
    rw [pk_m1]
    have e := fw_at hp (show k < 10 by omega)
    have bx : x / (q + 1) ^ k ≤ x := Nat.div_le_self _ _
    have bm : v * t ≤ 5 * 5 := Nat.mul_le_mul (by omega) (by omega)
    refine br_f (nI_pos (by omega)) ⟨vp_in_nI (by omega) (by omega), fw_nz hq hp (by omega), fw_m hq, nm_r (e' := nI ((v * t + x / (q + 1) ^ k) % (q + 1))) ?_ (nm_e (ih n _ (by omega) (by omega) (Nat.mod_lt _ (by omega)) h))⟩
    rw [e, pk_div (by omega) (fd_pp q _) (fw_pl hq (by omega)), pk_mul, nI_add, pk_rem (by omega) (by omega) (by omega)]
theorem xw_v {x t : Nat} {post : Int32 → Prop} (hq : q = 1 ∨ q = 2 ∨ q = 4) (hp : fw_P q pw) (hx : x < (q + 1) ^ 9) (ht : t < q + 1) (h : post (nI (fd_va q x t 9 0))) : wpX_valueOf post (nI (q + 1), pw, rg) (nI x) (nI t) := by
  have e : (8 : Int32) = nI 9 + (-1) := by decide
  show ∃ n, wX_valueOf_6 post (nI x) (nI t) (nI (q + 1)) pw rg n 0 8
  rw [e]
  exact ⟨10, xw_v6 hq hp hx ht 9 10 0 (by omega) (by omega) (by omega) h⟩
end
end
section
/-! X's own methods on factors -/
section
variable {q : Nat} {pw rg : Nat → Int32}
theorem fw_2 {a : Nat} : (2 : Int32) * nI a = nI (2 * a) := pk_mul 2 a
theorem xw_l30 {x m d : Nat} {post J : Int32 → Prop} {z : Int32} (hq : q = 1 ∨ q = 2 ∨ q = 4) (hp : fw_P q pw) (hx : x < (q + 1) ^ 9) (hF : fd_F q x m) (h1 : 1 ≤ d) (h8 : d ≤ 8) (hJ : (q + 1) ^ (d + 1) ≤ m → J (nI (d + 1))) (h : post (nI m)) : ∀ k c n, c + k = 2 * (q + 1) ^ d → k < n → (q + 1) ^ d ≤ c → c ≤ m → wX_leastFactorOf_30 post J (nI x) z (nI d) (nI (q + 1)) pw rg n (nI c) := by
  have b9 := fd_b9 hq
  have pd := fd_pm q (show d ≤ 9 by omega)
  obtain ⟨hM, hr, hl⟩ := hF
  obtain ⟨m0, m9, m1, _, _, m6, m7⟩ := fd_M0 hq hM
  have e := fw_at hp (show d < 10 by omega)
  intro k
  induction k with
  | zero =>
    intro c n hc hn hd hm
    obtain ⟨n, rfl⟩ : ∃ j, n = j + 1 := ⟨n - 1, by omega⟩
    refine ⟨vp_in_nI (by omega) (by omega), br_t (by rw [e, fw_2]; exact nI_le (by omega) (by omega)) (nm_r (nI_1 d) (hJ ?_))⟩
    rcases Nat.lt_or_ge d (fd_dg q m) with w | w
    · exact Nat.le_trans (fd_pm q w) m6
    · have := fd_pm q w
      omega
  | succ k ih =>
    intro c n hc hn hd hm
    obtain ⟨n, rfl⟩ : ∃ j, n = j + 1 := ⟨n - 1, by omega⟩
    have cM : fd_M q c := ⟨d, h1, h8, hd, by omega⟩
    obtain ⟨c0, c9, _⟩ := fd_M0 hq cM
    refine ⟨vp_in_nI (by omega) (by omega), br_f (by rw [e, fw_2]; exact nI_ge (by omega) (by omega)) (xw_r hq hp hx c0 c9 (pk_eq (fd_rm q x c) 0 (fun w => ?_) (fun w => nm_r (nI_1 c) (ih (c + 1) n (by omega) (by omega) (by omega) ?_)) rfl rfl (fw_b hq (fd_rm9 hq hx c0 c9)) (by omega)))⟩
    · rcases Nat.lt_or_ge c m with v | v
      · exact absurd w (hl c cM v)
      · have : c = m := by omega
        rw [this]
        exact h
    · rcases Nat.lt_or_ge c m with v | v
      · omega
      · have : c = m := by omega
        rw [this] at w
        exact absurd hr w
theorem xw_l15 {x m : Nat} {post : Int32 → Prop} (hq : q = 1 ∨ q = 2 ∨ q = 4) (hp : fw_P q pw) (h0 : 0 < x) (hx : x < (q + 1) ^ 9) (hF : fd_F q x m) (h : post (nI m)) : ∀ k d n, d + k = 9 → k < n → 1 ≤ d → (q + 1) ^ d ≤ m → wX_leastFactorOf_15 post (nI x) (nI (fd_dg q x)) (nI (q + 1)) pw rg n (nI d) := by
  have b9 := fd_b9 hq
  obtain ⟨m0, m9, m1, _, _, m6, m7⟩ := fd_M0 hq hF.1
  have x8 := fd_dg8 hx
  intro k
  induction k with
  | zero =>
    intro d n hd _ _ hm
    have : d = 9 := by omega
    subst this
    omega
  | succ k ih =>
    intro d n hd hn h1 hm
    obtain ⟨n, rfl⟩ : ∃ j, n = j + 1 := ⟨n - 1, by omega⟩
    have dm : d ≤ fd_dg q m := by
      rcases Nat.lt_or_ge (fd_dg q m) d with w | w
      · exfalso
        have a := fd_m2 hq m7
        have b := fd_pm q (show fd_dg q m + 1 ≤ d by omega)
        omega
      · exact w
    have e := fw_at hp (show d < 10 by omega)
    have pd := fd_pm q (show d ≤ 9 by omega)
    refine ⟨by decide, pk_lt (fd_dg q x / 2) d (fun w => ?_) (fun w => ⟨vp_in_nI (by omega) (by omega), nm_r e ⟨(q + 1) ^ d + 1, ?_⟩⟩) (pk_div (d := 2) (by omega) (by omega) (by omega)) rfl (by omega) (by omega)⟩
    · rcases fd_half hq hx h0 hF with v | v
      · omega
      · rw [v] at h
        exact xw_mo hq hp hx h
    · exact xw_l30 hq hp hx hF h1 (by omega) (fun v => ih (d + 1) n (by omega) (by omega) (by omega) v) h ((q + 1) ^ d) _ _ (by omega) (by omega) (Nat.le_refl _) hm
theorem xw_l {x : Nat} {post : Int32 → Prop} (hq : q = 1 ∨ q = 2 ∨ q = 4) (hp : fw_P q pw) (h0 : 0 < x) (hx : x < (q + 1) ^ 9) (h : post (nI (fd_lf q x))) : wpX_leastFactorOf post (nI (q + 1), pw, rg) (nI x) := by
  unfold wpX_leastFactorOf
  have x8 := fd_dg8 hx
  refine xw_degp hq hp h0 hx (pk_le 1 (fd_dg q x) (fun w => ⟨9, ?_⟩) (fun w => ?_) rfl rfl (by omega) (by omega))
  · have F := fd_lfF hq hx w
    obtain ⟨m0, m9, m1, _, _, m6, m7⟩ := fd_M0 hq F.1
    exact xw_l15 hq hp h0 hx F h 8 1 9 (by omega) (by omega) (by omega) (Nat.le_trans (fd_pm q m1) m6)
  · rw [fd_lf0 (by omega)] at h
    exact h
theorem fd_dg0 (q : Nat) : fd_dg q 0 = 0 := by
  unfold fd_dg
  rw [fd_ln0]
theorem xw_irr {x : Nat} {post : Int32 → Prop} (hq : q = 1 ∨ q = 2 ∨ q = 4) (hp : fw_P q pw) (hx : x < (q + 1) ^ 9) (h1 : 1 ≤ fd_dg q x → fd_dg q (fd_lf q x) = fd_dg q x → post 1) (h2 : ¬ (1 ≤ fd_dg q x ∧ fd_dg q (fd_lf q x) = fd_dg q x) → post 0) : wpX_isIrreducible post (nI (q + 1), pw, rg) (nI x) := by
  unfold wpX_isIrreducible
  rcases Nat.eq_zero_or_pos x with z | z
  · subst z
    refine xw_deg0 hq hp (br_f (by decide) (h2 ?_))
    rw [fd_dg0]
    omega
  · have x8 := fd_dg8 hx
    refine xw_degp hq hp z hx (pk_le 1 (fd_dg q x) (fun w => ?_) (fun w => h2 (by omega)) rfl rfl (by omega) (by omega))
    have F := fd_lfF hq hx w
    obtain ⟨m0, m9, m1, _⟩ := fd_M0 hq F.1
    have m8 := fd_dg8 m9
    refine xw_l hq hp z hx (xw_degp hq hp m0 m9 (pk_eq (fd_dg q (fd_lf q x)) (fd_dg q x) (fun v => h1 w v) (fun v => h2 (fun u => v u.2)) rfl rfl (by omega) (by omega)))
theorem xw_w5 {f : Nat} {post : Int32 → Prop} (hq : q = 1 ∨ q = 2 ∨ q = 4) (hp : fw_P q pw) (hf : fd_M q f) : ∀ d i n r, i + d = 8 → d < n → r < (q + 1) ^ 9 → post (nI (fd_wo q f d r)) → wX_without_5 post (nI f) (nI (q + 1)) pw rg n (nI r) (nI i) := by
  obtain ⟨f0, f9, _⟩ := fd_M0 hq hf
  intro d
  induction d with
  | zero =>
    intro i n r hi hn hr h
    obtain ⟨n, rfl⟩ : ∃ j, n = j + 1 := ⟨n - 1, by omega⟩
    exact br_t (nI_le (a := 8) (by omega) (by omega)) h
  | succ d ih =>
    intro i n r hi hn hr h
    obtain ⟨n, rfl⟩ : ∃ j, n = j + 1 := ⟨n - 1, by omega⟩
    simp only [fd_wo] at h
    refine br_f (nI_ge (b := 8) (by omega) (by omega)) (xw_r hq hp hr f0 f9 (pk_eq (fd_rm q r f) 0 (fun w => ?_) (fun w => ?_) rfl rfl (fw_b hq (fd_rm9 hq hr f0 f9)) (by omega)))
    · rw [if_pos w] at h
      exact xw_q hq hp hr f0 f9 (nm_r (nI_1 i) (ih (i + 1) n _ (by omega) (by omega) (fd_qt9 hq hr f0 f9) h))
    · rw [if_neg w] at h
      exact h
theorem xw_w {f r : Nat} {post : Int32 → Prop} (hq : q = 1 ∨ q = 2 ∨ q = 4) (hp : fw_P q pw) (hf : fd_M q f) (hr : r < (q + 1) ^ 9) (h : post (nI (fd_wo q f 8 r))) : wpX_without post (nI (q + 1), pw, rg) (nI r) (nI f) :=
  ⟨9, xw_w5 hq hp hf 8 0 9 r (by omega) (by omega) hr h⟩
theorem xw_m5 {f : Nat} {post : Int32 → Prop} (hq : q = 1 ∨ q = 2 ∨ q = 4) (hp : fw_P q pw) (hf : fd_M q f) : ∀ d i n r, i + d = 8 → d < n → r < (q + 1) ^ 9 → post (nI (i + fd_mu q f d r)) → wX_multiplicityOf_5 post (nI f) (nI (q + 1)) pw rg n (nI i) (nI r) := by
  obtain ⟨f0, f9, _⟩ := fd_M0 hq hf
  intro d
  induction d with
  | zero =>
    intro i n r hi hn hr h
    obtain ⟨n, rfl⟩ : ∃ j, n = j + 1 := ⟨n - 1, by omega⟩
    exact br_t (nI_le (a := 8) (by omega) (by omega)) h
  | succ d ih =>
    intro i n r hi hn hr h
    obtain ⟨n, rfl⟩ : ∃ j, n = j + 1 := ⟨n - 1, by omega⟩
    simp only [fd_mu] at h
    refine br_f (nI_ge (b := 8) (by omega) (by omega)) (xw_r hq hp hr f0 f9 (pk_eq (fd_rm q r f) 0 (fun w => ?_) (fun w => ?_) rfl rfl (fw_b hq (fd_rm9 hq hr f0 f9)) (by omega)))
    · rw [if_pos w] at h
      have e : i + (fd_mu q f d (fd_qt q r f) + 1) = i + 1 + fd_mu q f d (fd_qt q r f) := by omega
      rw [e] at h
      exact xw_q hq hp hr f0 f9 (nm_r (nI_1 i) (ih (i + 1) n _ (by omega) (by omega) (fd_qt9 hq hr f0 f9) h))
    · rw [if_neg w] at h
      exact h
theorem xw_mu {f r : Nat} {post : Int32 → Prop} (hq : q = 1 ∨ q = 2 ∨ q = 4) (hp : fw_P q pw) (hf : fd_M q f) (hr : r < (q + 1) ^ 9) (h : post (nI (fd_mu q f 8 r))) : wpX_multiplicityOf post (nI (q + 1), pw, rg) (nI r) (nI f) :=
  ⟨9, xw_m5 hq hp hf 8 0 9 r (by omega) (by omega) hr (by rw [Nat.zero_add]; exact h)⟩
theorem xw_n4 {post : Int32 → Prop} (hq : q = 1 ∨ q = 2 ∨ q = 4) (hp : fw_P q pw) : ∀ d i n r, i + d = 8 → d < n → 0 < r → r < (q + 1) ^ 9 → post (nI (i + fd_ct q d r)) → wX_factorCountOf_4 post (nI (q + 1)) pw rg n (nI i) (nI r) := by
  intro d
  induction d with
  | zero =>
    intro i n r hi hn r0 hr h
    obtain ⟨n, rfl⟩ : ∃ j, n = j + 1 := ⟨n - 1, by omega⟩
    exact br_t (nI_le (a := 8) (by omega) (by omega)) h
  | succ d ih =>
    intro i n r hi hn r0 hr h
    obtain ⟨n, rfl⟩ : ∃ j, n = j + 1 := ⟨n - 1, by omega⟩
    have r8 := fd_dg8 hr
    simp only [fd_ct] at h
    refine br_f (nI_ge (b := 8) (by omega) (by omega)) (xw_degp hq hp r0 hr (pk_le (fd_dg q r) 0 (fun w => ?_) (fun w => ?_) rfl rfl (by omega) (by omega)))
    · rw [if_neg (by omega)] at h
      exact h
    · rw [if_pos (by omega)] at h
      have F := fd_lfF hq hr w
      have s := fd_nxS hq r0 hr w
      have e : i + (fd_ct q d (fd_nx q r) + 1) = i + 1 + fd_ct q d (fd_nx q r) := by omega
      rw [e] at h
      refine xw_l hq hp r0 hr (xw_w hq hp F.1 hr (nm_r (nI_1 i) ?_))
      rw [← fd_nx1 w]
      exact ih (i + 1) n _ (by omega) (by omega) s.1 s.2.1 h
theorem xw_n {r : Nat} {post : Int32 → Prop} (hq : q = 1 ∨ q = 2 ∨ q = 4) (hp : fw_P q pw) (r0 : 0 < r) (hr : r < (q + 1) ^ 9) (h : post (nI (fd_ct q 8 r))) : wpX_factorCountOf post (nI (q + 1), pw, rg) (nI r) :=
  ⟨9, xw_n4 hq hp 8 0 9 r (by omega) (by omega) r0 hr (by rw [Nat.zero_add]; exact h)⟩
theorem xw_f17 {k : Nat} {post : Int32 → Prop} (hq : q = 1 ∨ q = 2 ∨ q = 4) (hp : fw_P q pw) (hk : k < 8) : ∀ d i n r, i + d = k → d < n → 0 < r → r < (q + 1) ^ 9 → post (nI (fd_lf q (fd_it q d r))) → wX_factorOf_17 post (nI k) (nI (q + 1)) pw rg n (nI r) (nI i) := by
  intro d
  induction d with
  | zero =>
    intro i n r hi hn r0 hr h
    obtain ⟨n, rfl⟩ : ∃ j, n = j + 1 := ⟨n - 1, by omega⟩
    exact br_t (nI_le (by omega) (by omega)) (xw_l hq hp r0 hr h)
  | succ d ih =>
    intro i n r hi hn r0 hr h
    obtain ⟨n, rfl⟩ : ∃ j, n = j + 1 := ⟨n - 1, by omega⟩
    have r8 := fd_dg8 hr
    refine br_f (nI_ge (by omega) (by omega)) (xw_degp hq hp r0 hr (pk_le (fd_dg q r) 0 (fun w => ?_) (fun w => ?_) rfl rfl (by omega) (by omega)))
    · rw [fd_it0 (by omega)] at h
      exact xw_l hq hp r0 hr h
    · have F := fd_lfF hq hr w
      have s := fd_nxS hq r0 hr w
      refine xw_l hq hp r0 hr (xw_w hq hp F.1 hr (nm_r (nI_1 i) ?_))
      rw [← fd_nx1 w]
      exact ih (i + 1) n _ (by omega) (by omega) s.1 s.2.1 h
theorem xw_f {k r : Nat} {post : Int32 → Prop} (hq : q = 1 ∨ q = 2 ∨ q = 4) (hp : fw_P q pw) (hk : k < 8) (r0 : 0 < r) (hr : r < (q + 1) ^ 9) (h : post (nI (fd_lf q (fd_it q k r)))) : wpX_factorOf post (nI (q + 1), pw, rg) (nI r) (nI k) :=
  br_f (nI_pos (by omega)) (br_t (nI_lt (b := 8) hk (by omega)) ⟨k + 1, xw_f17 hq hp hk k 0 (k + 1) r (by omega) (by omega) r0 hr h⟩)
theorem xw_f0 {m : Int32} {x : Int32} {r : Int32} {post : Int32 → Prop} (hx : x < 0 ∨ 8 ≤ x) (h : post 0) : wpX_factorOf post (m, pw, rg) r x := by
  by_cases z : x < 0
  · exact br_t z h
  · rcases hx with w | w
    · exact absurd w z
    · exact br_f z (br_f (Int32.not_lt.mpr w) h)
theorem xw_rd7 {post : Int32 → Prop} (hq : q = 1 ∨ q = 2 ∨ q = 4) (hp : fw_P q pw) : ∀ d i n a r, i + d = 8 → d < n → 0 < a → a < (q + 1) ^ 9 → 0 < r → r < (q + 1) ^ 9 → fd_dg q a + fd_dg q r ≤ 8 → post (nI (fd_rd q d a r)) → wX_radicalOf_7 post (nI (q + 1)) pw rg n (nI a) (nI r) (nI i) := by
  intro d
  induction d with
  | zero =>
    intro i n a r hi hn _ _ _ _ _ h
    obtain ⟨n, rfl⟩ : ∃ j, n = j + 1 := ⟨n - 1, by omega⟩
    exact br_t (nI_le (a := 8) (by omega) (by omega)) h
  | succ d ih =>
    intro i n a r hi hn a0 ha r0 hr h8 h
    obtain ⟨n, rfl⟩ : ∃ j, n = j + 1 := ⟨n - 1, by omega⟩
    have r8 := fd_dg8 hr
    simp only [fd_rd] at h
    refine br_f (nI_ge (b := 8) (by omega) (by omega)) (xw_degp hq hp r0 hr (pk_le (fd_dg q r) 0 (fun w => ?_) (fun w => ?_) rfl rfl (by omega) (by omega)))
    · rw [if_neg (by omega)] at h
      exact h
    · rw [if_pos (by omega)] at h
      have F := fd_lfF hq hr w
      obtain ⟨m0, m9, m1, _⟩ := fd_M0 hq F.1
      obtain ⟨s1, s2, s3, s4, s5, s6, s7⟩ := fd_nxS hq r0 hr w
      have v : fd_dg q (fd_lf q r) ≤ fd_mu q (fd_lf q r) 8 r * fd_dg q (fd_lf q r) := Nat.le_mul_of_pos_left _ s5
      obtain ⟨p0, pd⟩ := fd_prd hq ha a0 m0 m9 (by omega)
      refine xw_l hq hp r0 hr (xw_p hq hp ha m9 (fw_pd a0 ha m0 m9 (by omega)) (xw_w hq hp F.1 hr (nm_r (nI_1 i) ?_)))
      rw [← fd_nx1 w]
      exact ih (i + 1) n _ _ (by omega) (by omega) p0 (fd_pr9 _ _ 9) s1 s2 (by omega) h
theorem fd_1 (hq : q = 1 ∨ q = 2 ∨ q = 4) : 1 < (q + 1) ^ 9 ∧ fd_dg q 1 = 0 := by
  have h : 1 < (q + 1) ^ 1 := by
    rw [Nat.pow_one]
    have := fd_q1 hq
    omega
  have h9 : 1 < (q + 1) ^ 9 := Nat.lt_of_lt_of_le h (fd_pm q (by omega))
  have := fd_ll h9 h
  refine ⟨h9, ?_⟩
  unfold fd_dg
  omega
theorem xw_rd {r : Nat} {post : Int32 → Prop} (hq : q = 1 ∨ q = 2 ∨ q = 4) (hp : fw_P q pw) (r0 : 0 < r) (hr : r < (q + 1) ^ 9) (h : post (nI (fd_rd q 8 1 r))) : wpX_radicalOf post (nI (q + 1), pw, rg) (nI r) := by
  obtain ⟨a, b⟩ := fd_1 hq
  have r8 := fd_dg8 hr
  exact ⟨9, xw_rd7 hq hp 8 0 9 1 r (by omega) (by omega) (by omega) a r0 hr (by omega) h⟩
end
end
section
/-! Y's own methods, the arithmetic -/
section
variable {q : Nat} {en rm fo : Int32} {rg fa og : Nat → Int32}
theorem fw_pm1 (i : Nat) : nI i + (-1) + 1 = nI (i + 1) + (-1) := by
  rw [← nI_1]
  grind
theorem fw_dd (q x i : Nat) : x / (q + 1) ^ i / (q + 1) = x / (q + 1) ^ (i + 1) := by
  rw [Nat.div_div_eq_div_mul, ← fd_ps]
theorem fw_dp (hq : q = 1 ∨ q = 2 ∨ q = 4) {x i : Nat} (hx : x < 2 ^ 31) : nI (x / (q + 1) ^ i) / nI (q + 1) = nI (x / (q + 1) ^ (i + 1)) := by
  rw [pk_div (fw_dl hx) (by omega) (by omega), fw_dd]
theorem yw_d7 {x : Nat} {post : Int32 → Prop} (hq : q = 1 ∨ q = 2 ∨ q = 4) (hx : x < (q + 1) ^ 9) (h : post (nI (fd_ln q x) + (-1))) : ∀ d i n, i + d = fd_ln q x → d < n → wY_degreeOf_7 post (nI (q + 1)) en rm fo rg fa og n (nI i + (-1)) (nI (x / (q + 1) ^ i)) (nI i) := by
  have l9 := fd_l9 hx
  have xb := fw_b hq hx
  intro d
  induction d with
  | zero =>
    intro i n hi hn
    obtain ⟨n, rfl⟩ : ∃ j, n = j + 1 := ⟨n - 1, by omega⟩
    have e : i = fd_ln q x := by omega
    subst e
    refine br_f (nI_ge (b := 20) (by omega) (by omega)) (br_t ?_ h)
    rw [fd_low (fd_l1 hx) (Nat.le_refl _)]
    exact nI_le (a := 0) (b := 0) (by omega) (by omega)
  | succ d ih =>
    intro i n hi hn
    obtain ⟨n, rfl⟩ : ∃ j, n = j + 1 := ⟨n - 1, by omega⟩
    have x0 : 0 < x := by
      rcases Nat.eq_zero_or_pos x with z | z
      · subst z
        rw [fd_ln0] at hi
        omega
      · exact z
    have pos : 0 < x / (q + 1) ^ i := Nat.div_pos (Nat.le_trans (fd_pm q (show i ≤ fd_ln q x - 1 by omega)) (fd_l2 hx x0)) (fd_pp q i)
    have k := ih (i + 1) n (by omega) (by omega)
    exact br_f (nI_ge (b := 20) (by omega) (by omega)) (br_f (nI_nle pos (fw_dl xb)) ⟨fw_m hq, nm_r (fw_dp hq xb) (nm_r (fw_pm1 i) (nm_r (nI_1 i) k))⟩)
theorem yw_deg {x : Nat} {post : Int32 → Prop} (hq : q = 1 ∨ q = 2 ∨ q = 4) (hx : x < (q + 1) ^ 9) (h : post (nI (fd_ln q x) + (-1))) : wpY_degreeOf post (nI (q + 1), en, rm, fo, rg, fa, og) (nI x) := by
  have k := yw_d7 (en := en) (rm := rm) (fo := fo) (rg := rg) (fa := fa) (og := og) hq hx h (fd_ln q x) 0 (fd_ln q x + 1) (by omega) (by omega)
  have e : nI 0 + (-1) = -1 := by decide
  rw [Nat.pow_zero, Nat.div_one, e] at k
  exact ⟨_, k⟩
theorem yw_degp {x : Nat} {post : Int32 → Prop} (hq : q = 1 ∨ q = 2 ∨ q = 4) (h0 : 0 < x) (hx : x < (q + 1) ^ 9) (h : post (nI (fd_dg q x))) : wpY_degreeOf post (nI (q + 1), en, rm, fo, rg, fa, og) (nI x) :=
  yw_deg hq hx (by rw [fw_dI h0 hx]; exact h)
theorem yw_g5 {x i : Nat} {post : Int32 → Prop} (hq : q = 1 ∨ q = 2 ∨ q = 4) (hx : x < (q + 1) ^ 9) (h9 : i < 20) (h : post (nI (x / (q + 1) ^ i % (q + 1)))) : ∀ d j n, j + d = i → d < n → wY_digit_5 post (nI i) (nI (q + 1)) en rm fo rg fa og n (nI (x / (q + 1) ^ j)) (nI j) := by
  have xb := fw_b hq hx
  intro d
  induction d with
  | zero =>
    intro j n hj hn
    obtain ⟨n, rfl⟩ : ∃ j, n = j + 1 := ⟨n - 1, by omega⟩
    have e : j = i := by omega
    subst e
    refine br_t (nI_le (by omega) (by omega)) ⟨fw_m hq, ?_⟩
    rw [pk_rem (fw_dl xb) (by omega) (by omega)]
    exact h
  | succ d ih =>
    intro j n hj hn
    obtain ⟨n, rfl⟩ : ∃ j, n = j + 1 := ⟨n - 1, by omega⟩
    exact br_f (nI_ge (by omega) (by omega)) ⟨fw_m hq, nm_r (fw_dp hq xb) (nm_r (nI_1 j) (ih (j + 1) n (by omega) (by omega)))⟩
theorem yw_dig {x i : Nat} {post : Int32 → Prop} (hq : q = 1 ∨ q = 2 ∨ q = 4) (hx : x < (q + 1) ^ 9) (h9 : i < 20) (h : post (nI (x / (q + 1) ^ i % (q + 1)))) : wpY_digit post (nI (q + 1), en, rm, fo, rg, fa, og) (nI x) (nI i) := by
  have k := yw_g5 (en := en) (rm := rm) (fo := fo) (rg := rg) (fa := fa) (og := og) hq hx h9 h i 0 (i + 1) (by omega) (by omega)
  rw [Nat.pow_zero, Nat.div_one] at k
  exact ⟨_, k⟩
theorem yw_l4 {x : Nat} {post : Int32 → Prop} (hq : q = 1 ∨ q = 2 ∨ q = 4) (x0 : 0 < x) (hx : x < (q + 1) ^ 9) (h : post (nI (fd_ld q x))) : ∀ d j n, j + d = fd_dg q x → d < n → wY_lead_4 post (nI (q + 1)) en rm fo rg fa og n (nI (x / (q + 1) ^ j)) (nI j) := by
  have xb := fw_b hq hx
  have x8 := fd_dg8 hx
  have q5 := fd_bq hq
  intro d
  induction d with
  | zero =>
    intro j n hj hn
    obtain ⟨n, rfl⟩ : ∃ j, n = j + 1 := ⟨n - 1, by omega⟩
    have e : j = fd_dg q x := by omega
    subst e
    exact br_f (nI_ge (b := 20) (by omega) (by omega)) (br_t (nI_lt (fd_ldb x0 hx).2 (by omega)) h)
  | succ d ih =>
    intro j n hj hn
    obtain ⟨n, rfl⟩ : ∃ j, n = j + 1 := ⟨n - 1, by omega⟩
    have ge : q + 1 ≤ x / (q + 1) ^ j := by
      rw [Nat.le_div_iff_mul_le (fd_pp q j), Nat.mul_comm, ← fd_ps]
      exact Nat.le_trans (fd_pm q (by omega)) (fd_dgl x0 hx)
    exact br_f (nI_ge (b := 20) (by omega) (by omega)) (br_f (nI_nlt ge (fw_dl xb)) ⟨fw_m hq, nm_r (fw_dp hq xb) (nm_r (nI_1 j) (ih (j + 1) n (by omega) (by omega)))⟩)
theorem yw_lead {x : Nat} {post : Int32 → Prop} (hq : q = 1 ∨ q = 2 ∨ q = 4) (x0 : 0 < x) (hx : x < (q + 1) ^ 9) (h : post (nI (fd_ld q x))) : wpY_lead post (nI (q + 1), en, rm, fo, rg, fa, og) (nI x) := by
  have k := yw_l4 (en := en) (rm := rm) (fo := fo) (rg := rg) (fa := fa) (og := og) hq x0 hx h (fd_dg q x) 0 (fd_dg q x + 1) (by omega) (by omega)
  rw [Nat.pow_zero, Nat.div_one] at k
  exact ⟨_, k⟩
theorem yw_i2 {k : Nat} {post : Int32 → Prop} (hq : q = 1 ∨ q = 2 ∨ q = 4) (hk : k < q + 1) (h1 : 1 ≤ k) (h : post (nI (fd_iv q k))) : ∀ d c n, 1 ≤ c → c + d = fd_iv q k → d < n → wY_inverse_2 post (nI k) (nI (q + 1)) en rm fo rg fa og n (nI c) := by
  obtain ⟨i1, i2, i3, i4⟩ := fd_ivd q hq k hk h1
  have q5 := fd_bq hq
  intro d
  induction d with
  | zero =>
    intro c n hc hd hn
    obtain ⟨n, rfl⟩ : ∃ j, n = j + 1 := ⟨n - 1, by omega⟩
    have e : c = fd_iv q k := by omega
    have b : k * c ≤ 5 * 5 := Nat.mul_le_mul (by omega) (by omega)
    refine br_f (nI_ge (by omega) (by omega)) ⟨fw_m hq, pk_eq (k * c % (q + 1)) 1 (fun _ => by rw [e]; exact h) (fun z => ?_) (by rw [pk_mul, pk_rem (by omega) (by omega) (by omega)]) rfl (by have := Nat.mod_lt (k * c) (show 0 < q + 1 by omega); omega) (by omega)⟩
    exfalso
    apply z
    rw [e]
    exact i3
  | succ d ih =>
    intro c n hc hd hn
    obtain ⟨n, rfl⟩ : ∃ j, n = j + 1 := ⟨n - 1, by omega⟩
    have b : k * c ≤ 5 * 5 := Nat.mul_le_mul (by omega) (by omega)
    refine br_f (nI_ge (by omega) (by omega)) ⟨fw_m hq, pk_eq (k * c % (q + 1)) 1 (fun z => ?_) (fun z => nm_r (nI_1 c) (ih (c + 1) n (by omega) (by omega) (by omega))) (by rw [pk_mul, pk_rem (by omega) (by omega) (by omega)]) rfl (by have := Nat.mod_lt (k * c) (show 0 < q + 1 by omega); omega) (by omega)⟩
    exfalso
    rw [Nat.mul_comm] at z
    have := i4 c (by omega) z
    omega
theorem yw_i {k : Nat} {post : Int32 → Prop} (hq : q = 1 ∨ q = 2 ∨ q = 4) (hk : k < q + 1) (h1 : 1 ≤ k) (h : post (nI (fd_iv q k))) : wpY_inverse post (nI (q + 1), en, rm, fo, rg, fa, og) (nI k) := by
  obtain ⟨i1, i2, i3, i4⟩ := fd_ivd q hq k hk h1
  exact ⟨6, yw_i2 hq hk h1 h (fd_iv q k - 1) 1 6 (by omega) (by omega) (by have := fd_bq hq; omega)⟩
theorem fw_mm (a b k p : Nat) : (a % p + k * (b % p)) % p = (a + k * b) % p := by
  rw [Nat.add_mod, Nat.mod_mod, Nat.mul_mod, Nat.mod_mod, ← Nat.mul_mod, ← Nat.add_mod]
theorem yw_c15 {x k y : Nat} {post : Int32 → Prop} (hq : q = 1 ∨ q = 2 ∨ q = 4) (hx : x < (q + 1) ^ 9) (hy : y < (q + 1) ^ 9) (hk : k ≤ 5) (h : post (nI (fd_c q x k y 9))) : ∀ d i n, i + d = 9 → d < n → wY_plus_15 post (nI k) (nI (q + 1)) en rm fo rg fa og n (nI (fd_c q x k y i)) (nI ((q + 1) ^ i)) (nI (x / (q + 1) ^ i)) (nI (y / (q + 1) ^ i)) (nI i) := by
  have xb := fw_b hq hx
  have yb := fw_b hq hy
  have q5 := fd_bq hq
  intro d
  induction d with
  | zero =>
    intro i n hi hn
    obtain ⟨n, rfl⟩ : ∃ j, n = j + 1 := ⟨n - 1, by omega⟩
    have e : i = 9 := by omega
    subst e
    exact br_t (nI_le (a := 9) (b := 9) (by omega) (by omega)) h
  | succ d ih =>
    intro i n hi hn
    obtain ⟨n, rfl⟩ : ∃ j, n = j + 1 := ⟨n - 1, by omega⟩
    have m1 := Nat.mod_lt (x / (q + 1) ^ i) (show 0 < q + 1 by omega)
    have m2 := Nat.mod_lt (y / (q + 1) ^ i) (show 0 < q + 1 by omega)
    have b : k * (y / (q + 1) ^ i % (q + 1)) ≤ 5 * 5 := Nat.mul_le_mul hk (by omega)
    refine br_f (nI_ge (b := 9) (by omega) (by omega)) ⟨fw_m hq, fw_m hq, fw_m hq, nm_r (e' := nI (fd_c q x k y (i + 1))) ?_ (nm_r (e' := nI ((q + 1) ^ (i + 1))) ?_ ⟨fw_m hq, nm_r (fw_dp hq xb) ⟨fw_m hq, nm_r (fw_dp hq yb) (nm_r (nI_1 i) (ih (i + 1) n (by omega) (by omega)))⟩⟩)⟩
    · rw [pk_rem (fw_dl xb) (by omega) (by omega), pk_rem (fw_dl yb) (by omega) (by omega), pk_mul, nI_add, pk_rem (by omega) (by omega) (by omega), pk_mul, nI_add, fw_mm]
      rfl
    · rw [pk_mul, ← fd_ps]
theorem yw_c {x k y : Nat} {post : Int32 → Prop} (hq : q = 1 ∨ q = 2 ∨ q = 4) (hx : x < (q + 1) ^ 9) (hy : y < (q + 1) ^ 9) (hk : k ≤ 5) (h : post (nI (fd_c q x k y 9))) : wpY_plus post (nI (q + 1), en, rm, fo, rg, fa, og) (nI x) (nI y) (nI k) := by
  have z := yw_c15 (en := en) (rm := rm) (fo := fo) (rg := rg) (fa := fa) (og := og) hq hx hy hk h 9 0 10 (by omega) (by omega)
  rw [Nat.pow_zero, Nat.div_one, Nat.div_one] at z
  exact ⟨10, z⟩
theorem yw_p11 {x y : Nat} {post : Int32 → Prop} (hq : q = 1 ∨ q = 2 ∨ q = 4) (hx : x < (q + 1) ^ 9) (x0 : 0 < x) (y0 : 0 < y) (hy : y < (q + 1) ^ 9) (hd : fd_dg q x + fd_dg q y ≤ 8) (h : post (nI (fd_pr q x y 9))) : ∀ d i n U, i + d = 9 → d < n → U < (q + 1) ^ 9 → (0 < y / (q + 1) ^ i → U = x * (q + 1) ^ i) → wY_product_11 post (nI (q + 1)) en rm fo rg fa og n (nI (fd_pr q x y i)) (nI U) (nI (y / (q + 1) ^ i)) (nI i) := by
  have yb := fw_b hq hy
  have q5 := fd_bq hq
  intro d
  induction d with
  | zero =>
    intro i n U hi hn _ _
    obtain ⟨n, rfl⟩ : ∃ j, n = j + 1 := ⟨n - 1, by omega⟩
    have e : i = 9 := by omega
    subst e
    exact br_t (nI_le (a := 9) (b := 9) (by omega) (by omega)) h
  | succ d ih =>
    intro i n U hi hn hU hUe
    obtain ⟨n, rfl⟩ : ∃ j, n = j + 1 := ⟨n - 1, by omega⟩
    have m2 := Nat.mod_lt (y / (q + 1) ^ i) (show 0 < q + 1 by omega)
    have e : fd_c q (fd_pr q x y i) (y / (q + 1) ^ i % (q + 1)) U 9 = fd_pr q x y (i + 1) := by
      show _ = fd_c q (fd_pr q x y i) (y / (q + 1) ^ i % (q + 1)) (x * (q + 1) ^ i) 9
      rcases Nat.eq_zero_or_pos (y / (q + 1) ^ i) with z | z
      · rw [z, Nat.zero_mod, fd_cp (Nat.zero_mod _) (fd_pr9 x y i), fd_cp (Nat.zero_mod _) (fd_pr9 x y i)]
      · rw [hUe z]
    refine br_f (nI_ge (b := 9) (by omega) (by omega)) ⟨fw_m hq, ?_⟩
    rw [pk_rem (fw_dl yb) (by omega) (by omega)]
    refine yw_c hq (fd_pr9 x y i) hU (by omega) ?_
    rw [e]
    refine ⟨fw_m hq, nm_r (fw_dp hq yb) (pk_le (y / (q + 1) ^ (i + 1)) 0 (fun z => nm_r (nI_1 i) (ih (i + 1) n U (by omega) (by omega) hU (fun w => by omega))) (fun z => ?_) rfl rfl (fw_dl yb) (by omega))⟩
    have li : i + 1 ≤ fd_dg q y := by
      rcases Nat.lt_or_ge (fd_dg q y) (i + 1) with w | w
      · rw [fd_low (fd_dgu y0 hy) w] at z
        omega
      · exact w
    have pz : 0 < y / (q + 1) ^ i := by
      refine Nat.div_pos (Nat.le_trans (fd_pm q (show i ≤ fd_dg q y by omega)) (fd_dgl y0 hy)) (fd_pp q i)
    have eU : U * (q + 1) = x * (q + 1) ^ (i + 1) := by
      rw [hUe pz, fd_ps, Nat.mul_assoc]
    have l9 : x * (q + 1) ^ (i + 1) < (q + 1) ^ 9 := Nat.lt_of_lt_of_le (fd_Ylt (fd_dgu x0 hx)) (fd_pm q (by omega))
    exact nm_r (e' := nI (x * (q + 1) ^ (i + 1))) (by rw [pk_mul, eU]) (nm_r (nI_1 i) (ih (i + 1) n _ (by omega) (by omega) l9 (fun _ => rfl)))
theorem yw_p {x y : Nat} {post : Int32 → Prop} (hq : q = 1 ∨ q = 2 ∨ q = 4) (hx : x < (q + 1) ^ 9) (x0 : 0 < x) (y0 : 0 < y) (hy : y < (q + 1) ^ 9) (hd : fd_dg q x + fd_dg q y ≤ 8) (h : post (nI (fd_pr q x y 9))) : wpY_product post (nI (q + 1), en, rm, fo, rg, fa, og) (nI x) (nI y) := by
  have z := yw_p11 (en := en) (rm := rm) (fo := fo) (rg := rg) (fa := fa) (og := og) hq hx x0 y0 hy hd h 9 0 10 x (by omega) (by omega) hx (fun _ => by rw [Nat.pow_zero, Nat.mul_one])
  rw [Nat.pow_zero, Nat.div_one] at z
  exact ⟨10, z⟩
theorem yw_q90 {d v y i c Q R : Nat} {post : Int32 → SY → Prop} {J : Int32 → Int32 → Int32 → Prop} (hq : q = 1 ∨ q = 2 ∨ q = 4) (hR : R < (q + 1) ^ 9) (hY : y * (q + 1) ^ i < (q + 1) ^ 9) (hc : c < q + 1) (hi : i < 10) (h : J (nI (Q + c * (q + 1) ^ i)) (nI i + (-1)) (nI (fd_c q R (q + 1 - c) (y * (q + 1) ^ i) 9))) : ∀ e j n, j + e = i → e < n → wY_quotient_90 post J (nI y) (nI Q) (nI d) (nI v) (nI i) (nI c) (nI (q + 1)) en (nI R) fo rg fa og n (nI (y * (q + 1) ^ j)) (nI (c * (q + 1) ^ j)) (nI j) := by
  have q5 := fd_bq hq
  intro e
  induction e with
  | zero =>
    intro j n hj hn
    obtain ⟨n, rfl⟩ : ∃ j, n = j + 1 := ⟨n - 1, by omega⟩
    have ej : j = i := by omega
    subst ej
    refine br_t (nI_le (by omega) (by omega)) ?_
    rw [pk_sub (by omega)]
    exact yw_c hq hR hY (by omega) (nm_r (nI_add _ _) (nm_e h))
  | succ e ih =>
    intro j n hj hn
    obtain ⟨n, rfl⟩ : ∃ j, n = j + 1 := ⟨n - 1, by omega⟩
    refine br_f (nI_ge (by omega) (by omega)) (nm_r (e' := nI (y * (q + 1) ^ (j + 1))) ?_ (nm_r (e' := nI (c * (q + 1) ^ (j + 1))) ?_ (nm_r (nI_1 j) (ih (j + 1) n (by omega) (by omega)))))
    · rw [pk_mul, fd_ps, Nat.mul_assoc]
    · rw [pk_mul, fd_ps, Nat.mul_assoc]
theorem yw_q33 {d v y : Nat} {post : Int32 → SY → Prop} (hq : q = 1 ∨ q = 2 ∨ q = 4) (hy : y < (q + 1) ^ (d + 1)) (hv : v < q + 1) : ∀ k n Q R, d + k ≤ 9 → k < n → R < (q + 1) ^ 9 → post (nI (fd_dv q d v y k (Q, R)).1) (nI (q + 1), en, nI (fd_dv q d v y k (Q, R)).2, fo, rg, fa, og) → wY_quotient_33 post (nI y) (nI d) (nI v) (nI (q + 1)) en fo rg fa og n (nI Q) (nI k + (-1)) (nI R) := by
  have b9 := fd_b9 hq
  have q5 := fd_bq hq
  intro k
  induction k with
  | zero =>
    intro n Q R _ hn _ h
    obtain ⟨n, rfl⟩ : ∃ j, n = j + 1 := ⟨n - 1, by omega⟩
    exact br_t (by decide) h
  | succ k ih =>
    intro n Q R hk hn hR h
    obtain ⟨n, rfl⟩ : ∃ j, n = j + 1 := ⟨n - 1, by omega⟩
    rw [pk_m1]
    have hc : R / (q + 1) ^ (d + k) * v % (q + 1) < q + 1 := Nat.mod_lt _ (by omega)
    have m1 := Nat.mod_lt (R / (q + 1) ^ (d + k)) (show 0 < q + 1 by omega)
    have bm : R / (q + 1) ^ (d + k) % (q + 1) * v ≤ 5 * 5 := Nat.mul_le_mul (by omega) (by omega)
    have hY9 : y * (q + 1) ^ k < (q + 1) ^ 9 := Nat.lt_of_lt_of_le (fd_Ylt hy) (fd_pm q (by omega))
    have ec : R / (q + 1) ^ (d + k) % (q + 1) * v % (q + 1) = R / (q + 1) ^ (d + k) * v % (q + 1) := by
      rw [Nat.mul_mod, Nat.mod_mod, ← Nat.mul_mod]
    refine br_f (nI_pos (by omega)) (br_f ?_ ?_)
    · rw [nI_add]
      exact nI_nlt (a := 8) (by omega) (by omega)
    rw [nI_add, Nat.add_comm k d]
    refine yw_dig hq hR (by omega) ⟨fw_m hq, ?_⟩
    rw [pk_mul, pk_rem (by omega) (by omega) (by omega), ec]
    have K := ih n (Q + R / (q + 1) ^ (d + k) * v % (q + 1) * (q + 1) ^ k) (fd_c q R (q + 1 - R / (q + 1) ^ (d + k) * v % (q + 1)) (y * (q + 1) ^ k) 9) (by omega) (by omega) (fd_clt q _ _ _ 9) h
    refine pk_le (R / (q + 1) ^ (d + k) * v % (q + 1)) 0 (fun z => nm_e ?_) (fun z => ⟨k + 1, ?_⟩) rfl rfl (by omega) (by omega)
    · have z0 : R / (q + 1) ^ (d + k) * v % (q + 1) = 0 := by omega
      rw [z0, Nat.zero_mul, Nat.add_zero, Nat.sub_zero, fd_cp (Nat.mod_self _) hR] at K
      exact K
    · have W := yw_q90 (post := post) (en := en) (fo := fo) (rg := rg) (fa := fa) (og := og) (d := d) (v := v) (Q := Q) hq hR hY9 hc (by omega) K k 0 (k + 1) (by omega) (by omega)
      rw [Nat.pow_zero, Nat.mul_one, Nat.mul_one] at W
      exact W
theorem yw_q33s {d v y : Nat} {post : Int32 → SY → Prop} (hq : q = 1 ∨ q = 2 ∨ q = 4) (hd : d ≤ 8) {Q R : Nat} {n0 : Nat} (h : ∀ n, n0 ≤ n → wY_quotient_33 post (nI y) (nI d) (nI v) (nI (q + 1)) en fo rg fa og n (nI Q) (nI (9 - d) + (-1)) (nI R)) : ∀ e n, n0 + e ≤ n → 9 - d + e ≤ 9 → wY_quotient_33 post (nI y) (nI d) (nI v) (nI (q + 1)) en fo rg fa og n (nI Q) (nI (9 - d + e) + (-1)) (nI R) := by
  intro e
  induction e with
  | zero => intro n hn _; exact h n (by omega)
  | succ e ih =>
    intro n hn h9
    obtain ⟨n, rfl⟩ : ∃ j, n = j + 1 := ⟨n - 1, by omega⟩
    have e1 : 9 - d + (e + 1) = (9 - d + e) + 1 := by omega
    rw [e1, pk_m1]
    refine br_f (nI_pos (by omega)) (br_t ?_ (br_t (by decide) (nm_e (ih n (by omega) (by omega)))))
    rw [nI_add]
    exact nI_lt (a := 8) (by omega) (by omega)
theorem yw_q {x y : Nat} {post : Int32 → SY → Prop} (hq : q = 1 ∨ q = 2 ∨ q = 4) (hx : x < (q + 1) ^ 9) (y0 : 0 < y) (hy : y < (q + 1) ^ 9) (h : post (nI (fd_qt q x y)) (nI (q + 1), en, nI (fd_rm q x y), fo, rg, fa, og)) : wpY_quotient post (nI (q + 1), en, rm, fo, rg, fa, og) (nI x) (nI y) := by
  have d8 := fd_dg8 hy
  obtain ⟨l1, l2⟩ := fd_ldb y0 hy
  have e : (8 : Int32) = nI 9 + (-1) := by decide
  unfold wpY_quotient
  refine yw_degp hq y0 hy (yw_lead hq y0 hy (yw_i hq l2 l1 ⟨20, ?_⟩))
  rw [e]
  have K := yw_q33s (post := post) (en := en) (fo := fo) (rg := rg) (fa := fa) (og := og) (d := fd_dg q y) (v := fd_iv q (fd_ld q y)) (y := y) (Q := 0) (R := x) (n0 := 10) hq d8 (fun n hn => yw_q33 hq (fd_dgu y0 hy) (fd_ivd q hq _ l2 l1).2.1 _ n 0 x (by omega) (by omega) hx h) (fd_dg q y) 20 (by omega) (by omega)
  rw [Nat.sub_add_cancel (by omega)] at K
  exact K
theorem yw_mo {x : Nat} {post : Int32 → Prop} (hq : q = 1 ∨ q = 2 ∨ q = 4) (hx : x < (q + 1) ^ 9) (h : post (nI (fd_mo q x))) : wpY_monic post (nI (q + 1), en, rm, fo, rg, fa, og) (nI x) := by
  unfold wpY_monic
  refine pk_eq x 0 (fun z => ?_) (fun z => ?_) rfl rfl (fw_b hq hx) (by omega)
  · rw [z, fd_mo0] at h
    exact h
  · have z0 : 0 < x := Nat.pos_of_ne_zero z
    obtain ⟨l1, l2⟩ := fd_ldb z0 hx
    have i2 := (fd_ivd q hq _ l2 l1).2.1
    have q5 := fd_bq hq
    exact yw_lead hq z0 hx (yw_i hq l2 l1 (yw_c (x := 0) hq (fd_pp q 9) hx (show fd_iv q (fd_ld q x) ≤ 5 by omega) h))
theorem fd_gc0 (u : Nat) : ∀ n, fd_gc q n u 0 = u := by
  intro n
  cases n with
  | zero => rfl
  | succ n => simp [fd_gc]
theorem yw_g8 {post : Int32 → SY → Prop} (hq : q = 1 ∨ q = 2 ∨ q = 4) : ∀ d i n u v rm, i + d = 12 → d < n → u < (q + 1) ^ 9 → v < (q + 1) ^ 9 → (∀ rm', post (nI (fd_mo q (fd_gc q d u v))) (nI (q + 1), en, rm', fo, rg, fa, og)) → wY_common_8 post n (nI u) (nI v) (nI i) (nI (q + 1)) en rm fo rg fa og := by
  intro d
  induction d with
  | zero =>
    intro i n u v rm hi hn hu hv h
    obtain ⟨n, rfl⟩ : ∃ j, n = j + 1 := ⟨n - 1, by omega⟩
    exact br_t (nI_le (a := 12) (by omega) (by omega)) (yw_mo hq hu (h rm))
  | succ d ih =>
    intro i n u v rm hi hn hu hv h
    obtain ⟨n, rfl⟩ : ∃ j, n = j + 1 := ⟨n - 1, by omega⟩
    refine br_f (nI_ge (b := 12) (by omega) (by omega)) (pk_eq v 0 (fun z => nm_r (nI_1 i) (ih (i + 1) n u v rm (by omega) (by omega) hu hv ?_)) (fun z => ?_) rfl rfl (fw_b hq hv) (by omega))
    · subst z
      rw [fd_gc0] at h ⊢
      exact h
    · simp only [fd_gc] at h
      rw [if_neg z] at h
      have z0 : 0 < v := Nat.pos_of_ne_zero z
      exact yw_q hq hu z0 hv (nm_r (nI_1 i) (ih (i + 1) n v _ _ (by omega) (by omega) hv (fd_rm9 hq hu z0 hv) h))
theorem yw_g {u v : Nat} {post : Int32 → SY → Prop} (hq : q = 1 ∨ q = 2 ∨ q = 4) (hu : u < (q + 1) ^ 9) (hv : v < (q + 1) ^ 9) (h : ∀ rm', post (nI (fd_mo q (fd_gc q 12 u v))) (nI (q + 1), en, rm', fo, rg, fa, og)) : wpY_common post (nI (q + 1), en, rm, fo, rg, fa, og) (nI u) (nI v) :=
  ⟨13, yw_g8 hq 12 0 13 u v rm (by omega) (by omega) hu hv h⟩
theorem yw_v6 {x t : Nat} {post : Int32 → Prop} (hq : q = 1 ∨ q = 2 ∨ q = 4) (hx : x < (q + 1) ^ 9) (ht : t < q + 1) : ∀ k n v, k ≤ 9 → k < n → v < q + 1 → post (nI (fd_va q x t k v)) → wY_value_6 post (nI x) (nI t) (nI (q + 1)) en rm fo rg fa og n (nI v) (nI k + (-1)) := by
  have b9 := fd_b9 hq
  have q5 := fd_bq hq
  intro k
  induction k with
  | zero =>
    intro n v _ hn _ h
    obtain ⟨n, rfl⟩ : ∃ j, n = j + 1 := ⟨n - 1, by omega⟩
    exact br_t (by decide) h
  | succ k ih =>
    intro n v hk hn hv h
    obtain ⟨n, rfl⟩ : ∃ j, n = j + 1 := ⟨n - 1, by omega⟩
    rw [pk_m1]
    have m1 := Nat.mod_lt (x / (q + 1) ^ k) (show 0 < q + 1 by omega)
    have bm : v * t ≤ 5 * 5 := Nat.mul_le_mul (by omega) (by omega)
    refine br_f (nI_pos (by omega)) (yw_dig hq hx (by omega) ⟨fw_m hq, nm_r (e' := nI ((v * t + x / (q + 1) ^ k) % (q + 1))) ?_ (nm_e (ih n _ (by omega) (by omega) (Nat.mod_lt _ (by omega)) h))⟩)
    rw [pk_mul, nI_add, pk_rem (by omega) (by omega) (by omega), fd_vam]
theorem yw_v {x t : Nat} {post : Int32 → Prop} (hq : q = 1 ∨ q = 2 ∨ q = 4) (hx : x < (q + 1) ^ 9) (ht : t < q + 1) (h : post (nI (fd_va q x t 9 0))) : wpY_value post (nI (q + 1), en, rm, fo, rg, fa, og) (nI x) (nI t) := by
  have e : (8 : Int32) = nI 9 + (-1) := by decide
  show ∃ n, wY_value_6 post (nI x) (nI t) (nI (q + 1)) en rm fo rg fa og n 0 8
  rw [e]
  exact ⟨10, yw_v6 hq hx ht 9 10 0 (by omega) (by omega) (by omega) h⟩
end
end
section
/-! Y's strip, split, isPrime -/
section
variable {q : Nat} {en : Int32} {rg : Nat → Int32}
theorem yw_s0 {post : Int32 → SY → Prop} {c r t : Int32} {k : Nat} {p rm fo : Int32} {fa og : Nat → Int32} (h : wY_strip_76 post c r t p en rm fo rg fa og) : ∀ n, 0 < n → wY_strip_11 post c n r t 0 (nI k) p en rm fo rg fa og := by
  intro n hn
  obtain ⟨n, rfl⟩ : ∃ j, n = j + 1 := ⟨n - 1, by omega⟩
  exact br_c (fun _ => h) (fun _ => br_t rfl h)
theorem yw_s11 {post : Int32 → SY → Prop} {c : Nat} {fo : Int32} {fa og : Nat → Int32} (hq : q = 1 ∨ q = 2 ∨ q = 4) (hc : fd_M q c) : ∀ d k n r t rm, k + d = 9 → d < n → 0 < r → r < (q + 1) ^ 9 → (∀ rm', wY_strip_76 post (nI c) (nI (fd_wo q c d r)) (nI (t + fd_mu q c d r)) (nI (q + 1)) en rm' fo rg fa og) → wY_strip_11 post (nI c) n (nI r) (nI t) 1 (nI k) (nI (q + 1)) en rm fo rg fa og := by
  obtain ⟨c0, c9, c1, _⟩ := fd_M0 hq hc
  intro d
  induction d with
  | zero =>
    intro k n r t rm hk hn _ _ h
    obtain ⟨n, rfl⟩ : ∃ j, n = j + 1 := ⟨n - 1, by omega⟩
    exact br_t (nI_le (a := 9) (by omega) (by omega)) (h rm)
  | succ d ih =>
    intro k n r t rm hk hn r0 hr h
    obtain ⟨n, rfl⟩ : ∃ j, n = j + 1 := ⟨n - 1, by omega⟩
    simp only [fd_wo, fd_mu] at h
    refine br_f (nI_ge (b := 9) (by omega) (by omega)) (br_f (by decide) (pk_le r 1 (fun z => ?_) (fun z => ?_) rfl rfl (fw_b hq hr) (by omega)))
    · have e : r = 1 := by omega
      have nz : fd_rm q r c ≠ 0 := fd_nd hq hc r0 hr (by rw [e, (fd_1 hq).2]; omega)
      rw [if_neg nz, if_neg nz] at h
      exact br_t (nI_le (b := 1) z (by omega)) (br_t rfl (nm_r (nI_1 k) (yw_s0 (h rm) n (by omega))))
    · have k0 := (fd_rm9 hq hr c0 c9)
      refine yw_q hq hr c0 c9 (br_f (nI_ge (a := 1) z (fw_b hq hr)) (pk_eq (fd_rm q r c) 0 (fun w => ?_) (fun w => ?_) rfl rfl (fw_b hq k0) (by omega)))
      · rw [if_pos w, if_pos w] at h
        refine br_f (by decide) (nm_r (nI_1 t) (nm_r (nI_1 k) (ih (k + 1) n _ (t + 1) _ (by omega) (by omega) (fd_cof hq hr r0 c0 c9 w).1 (fd_qt9 hq hr c0 c9) (fun rm' => ?_))))
        have e : t + (fd_mu q c d (fd_qt q r c) + 1) = t + 1 + fd_mu q c d (fd_qt q r c) := by omega
        rw [e] at h
        exact h rm'
      · rw [if_neg w, if_neg w] at h
        exact br_t rfl (nm_r (nI_1 k) (yw_s0 (h _) n (by omega)))
theorem yw_s {post : Int32 → SY → Prop} {c r j : Nat} {rm : Int32} {fa og : Nat → Int32} (hq : q = 1 ∨ q = 2 ∨ q = 4) (hc : fd_M q c) (r0 : 0 < r) (hr : r < (q + 1) ^ 9) (h0 : fd_rm q r c ≠ 0 → ∀ rm', post (nI r) (nI (q + 1), en, rm', nI j, rg, fa, og)) (h1 : fd_rm q r c = 0 → j < 8 ∧ ∀ rm', post (nI (fd_wo q c 8 r)) (nI (q + 1), en, rm', nI (j + 1), rg, upd fa j (nI c), upd og j (nI (fd_mu q c 8 r)))) : wpY_strip post (nI (q + 1), en, rm, nI j, rg, fa, og) (nI r) (nI c) := by
  obtain ⟨a1, a2, a3, a4, a5, a6⟩ := fd_woS hq hc 8 r r0 hr (fd_dg8 hr)
  obtain ⟨b1, b2⟩ := a5 9 (by omega)
  obtain ⟨c0, c9, c1, _⟩ := fd_M0 hq hc
  have r8 := fd_dg8 hr
  refine ⟨10, yw_s11 hq hc 9 0 10 r 0 rm (by omega) (by omega) r0 hr (fun rm' => ?_)⟩
  rw [Nat.zero_add, b1, b2]
  rcases Classical.em (fd_rm q r c = 0) with z | z
  · obtain ⟨j8, k⟩ := h1 z
    have m1 : 1 ≤ fd_mu q c 8 r := by
      show 1 ≤ if fd_rm q r c = 0 then fd_mu q c 7 (fd_qt q r c) + 1 else 0
      rw [if_pos z]
      omega
    have m8 : fd_mu q c 8 r ≤ 8 := by
      have : fd_mu q c 8 r ≤ fd_mu q c 8 r * fd_dg q c := Nat.le_mul_of_pos_right _ c1
      omega
    have jn : vp_in (nI j) 8 := vp_in_nI (by omega) (by omega)
    refine br_f (nI_nle m1 (by omega)) (br_f (nI_ge (b := 8) (by omega) (by omega)) ⟨jn, nm_r (e' := upd fa j (nI c)) ?_ ⟨jn, nm_r (e' := upd og j (nI (fd_mu q c 8 r))) ?_ (nm_r (nI_1 j) (k rm'))⟩⟩)
    · rw [nI_clamp (by omega)]
    · rw [nI_clamp (by omega)]
  · have m0 : fd_mu q c 8 r = 0 := by
      show (if fd_rm q r c = 0 then fd_mu q c 7 (fd_qt q r c) + 1 else 0) = 0
      rw [if_neg z]
    have w0 : fd_wo q c 8 r = r := by
      show (if fd_rm q r c = 0 then fd_wo q c 7 (fd_qt q r c) else r) = r
      rw [if_neg z]
    rw [m0, w0]
    exact br_t (nI_le (a := 0) (b := 0) (by omega) (by omega)) (h0 z rm')
def fw_End (q : Nat) (en : Int32) (rg : Nat → Int32) (post : SY → Prop) (y j : Nat) (fa og : Nat → Int32) : Prop :=
  ∀ rm' fa' og', fd_G q y j fa og fa' og' → post (nI (q + 1), en, rm', nI (j + fd_ct q 8 y), rg, fa', og')
theorem yw_82 {post : SY → Prop} {J19 : Int32 → Int32 → Int32 → Int32 → Int32 → Int32 → Int32 → (Nat → Int32) → (Nat → Int32) → (Nat → Int32) → Prop} {J29 : Int32 → Int32 → Int32 → Int32 → Int32 → Int32 → (Nat → Int32) → (Nat → Int32) → (Nat → Int32) → Prop} {x3 x4 : Int32} {c y j : Nat} {rm : Int32} {fa og : Nat → Int32} (hq : q = 1 ∨ q = 2 ∨ q = 4) (hc : fd_M q c) (hY : fd_Y q y) (hN : fd_N q c y) (hj : j + fd_dg q y ≤ 8) (hE : fw_End q en rg post y j fa og)
    (hJ : ∀ y' j' rm' fa' og', fd_Y q y' → fd_N q (c + 1) y' → j' + fd_dg q y' ≤ 8 → fw_End q en rg post y' j' fa' og' → J29 (nI y') (nI (c + 1)) (nI (q + 1)) en rm' (nI j') rg fa' og') :
    wY_split_82 post J19 J29 (nI y) x3 x4 (nI c) (nI (fd_dg q y)) (nI (q + 1)) en rm (nI j) rg fa og := by
  have y0 := fd_Y0 hY
  have y9 := hY.2.2
  obtain ⟨c0, c9, c1, _⟩ := fd_M0 hq hc
  refine pk_le (fd_dg q y) 0 (fun z => nm_r (nI_1 c) (hJ y j rm fa og hY (fd_N0 hq y0 y9 (by omega) _) hj hE)) (fun z => ?_) rfl rfl (by omega) (by omega)
  refine yw_s hq hc y0 y9 (fun w rm' => nm_r (nI_1 c) (hJ y j rm' fa og hY (fd_Ns hN w) hj hE)) (fun w => ⟨by omega, fun rm' => nm_r (nI_1 c) (hJ _ _ rm' _ _ (fd_Yw hq hc 8 y hY) (fd_Nw hq y0 y9 hN hc) ?_ ?_)⟩)
  · obtain ⟨d1, d2⟩ := fd_NF hq y0 y9 hN hc w
    have s := fd_nxS hq y0 y9 d1
    rw [fd_nx1 d1, d2] at s
    have := s.2.2.2.2.2.1
    omega
  · obtain ⟨d1, d2⟩ := fd_NF hq y0 y9 hN hc w
    intro rm2 fa2 og2 hG
    have e : fd_wo q c 8 y = fd_nx q y := by rw [fd_nx1 d1, d2]
    rw [e] at hG ⊢
    have e2 : j + 1 + fd_ct q 8 (fd_nx q y) = j + fd_ct q 8 y := by
      rw [fd_ct1 hq y0 y9 d1]
      omega
    rw [e2]
    refine hE rm2 fa2 og2 (fd_G1 hq y0 y9 d1 ?_)
    rw [d2]
    exact hG
theorem yw_29 {post : SY → Prop} {J19 : Int32 → Int32 → Int32 → Int32 → Int32 → Int32 → Int32 → (Nat → Int32) → (Nat → Int32) → (Nat → Int32) → Prop} {d : Nat} (hq : q = 1 ∨ q = 2 ∨ q = 4) (h1 : 1 ≤ d) (h8 : d ≤ 8)
    (hJ : ∀ y' j' rm' fa' og', fd_Y q y' → fd_N q ((q + 1) ^ (d + 1)) y' → j' + fd_dg q y' ≤ 8 → fw_End q en rg post y' j' fa' og' → J19 (nI y') (nI ((q + 1) ^ (d + 1))) (nI (d + 1)) (nI (q + 1)) en rm' (nI j') rg fa' og') :
    ∀ n c y j rm fa og, 2 * (q + 1) ^ d < n + c → (q + 1) ^ d ≤ c → c ≤ 2 * (q + 1) ^ d → fd_Y q y → fd_N q c y → j + fd_dg q y ≤ 8 → fw_End q en rg post y j fa og → wY_split_29 post J19 (nI ((q + 1) ^ d)) (nI d) n (nI y) (nI c) (nI (q + 1)) en rm (nI j) rg fa og := by
  have b9 := fd_b9 hq
  have pd := fd_pm q (show d ≤ 9 by omega)
  have pp := fd_pp q d
  intro n
  induction n with
  | zero => intro c y j rm fa og hn _ hc; omega
  | succ n ih =>
    intro c y j rm fa og hn hlo hhi hY hN hj hE
    have y0 := fd_Y0 hY
    have y9 := hY.2.2
    have yb := fw_b hq y9
    have y8 := fd_dg8 y9
    refine pk_le (2 * (q + 1) ^ d) c (fun z => nm_r (e' := nI ((q + 1) ^ (d + 1))) (by rw [pk_mul, ← fd_ps]) (nm_r (nI_1 d) (hJ y j rm fa og hY (fd_Nd hq ?_) hj hE))) (fun z => yw_degp hq y0 y9 ?_) fw_2 rfl (by omega) (by omega)
    · have e : c = 2 * (q + 1) ^ d := by omega
      rw [← e]
      exact hN
    · have cM : fd_M q c := ⟨d, h1, h8, hlo, z⟩
      have lM : fd_M q (2 * (q + 1) ^ d - 1) := ⟨d, h1, h8, by omega, by omega⟩
      have e3 : (2 : Int32) * nI ((q + 1) ^ d) - 1 = nI (2 * (q + 1) ^ d - 1) := by
        rw [fw_2]
        exact pk_sub (b := 1) (by omega)
      have go : ∀ c', c ≤ c' → c' < 2 * (q + 1) ^ d → fd_N q c' y → wY_split_82 post J19 (wY_split_29 post J19 (nI ((q + 1) ^ d)) (nI d) n) (nI y) (nI ((q + 1) ^ d)) (nI d) (nI c') (nI (fd_dg q y)) (nI (q + 1)) en rm (nI j) rg fa og := by
        intro c' l1 l2 hN'
        exact yw_82 hq ⟨d, h1, h8, by omega, l2⟩ hY hN' hj hE (fun y' j' rm' fa' og' a b c2 d2 => ih (c' + 1) y' j' rm' fa' og' (by omega) (by omega) (by omega) a b c2 d2)
      have last : ¬ (1 ≤ fd_dg q y ∧ y < 2 * (q + 1) ^ d ∧ c ≤ y) → fd_dg q y < 2 * d → wY_split_75 post J19 (wY_split_29 post J19 (nI ((q + 1) ^ d)) (nI d) n) (nI y) (nI ((q + 1) ^ d)) (nI d) (nI (fd_dg q y)) (nI (q + 1)) en rm (nI j) rg fa og := by
        intro k1 k2
        have N2 := (fd_Nbig hq hY k2 hlo hN).2 k1
        unfold wY_split_75 wY_split_80
        rw [e3]
        exact go _ (by omega) (by omega) (fun l hl hll => N2 l hl (by omega))
      refine pk_le (2 * d) (fd_dg q y) (fun w => go c (Nat.le_refl _) z hN) (fun w => ?_) fw_2 rfl (by omega) (by omega)
      refine pk_le (fd_dg q y) 0 (fun v => last (by omega) w) (fun v => ?_) rfl rfl (by omega) (by omega)
      refine pk_le (2 * (q + 1) ^ d) y (fun u => last (by omega) w) (fun u => ?_) fw_2 rfl (by omega) yb
      refine pk_lt y c (fun t => last (by omega) w) (fun t => ?_) rfl rfl yb (by omega)
      exact go y t u (fd_Nbig hq hY w hlo hN).1
theorem yw_19 {post : SY → Prop} (hq : q = 1 ∨ q = 2 ∨ q = 4) : ∀ k d n y j rm fa og, d + k = 9 → k < n → 1 ≤ d → fd_Y q y → fd_N q ((q + 1) ^ d) y → j + fd_dg q y ≤ 8 → fw_End q en rg post y j fa og → wY_split_19 post n (nI y) (nI ((q + 1) ^ d)) (nI d) (nI (q + 1)) en rm (nI j) rg fa og := by
  intro k
  induction k with
  | zero =>
    intro d n y j rm fa og hd hn h1 hY hN hj hE
    obtain ⟨n, rfl⟩ : ∃ j, n = j + 1 := ⟨n - 1, by omega⟩
    have e : d = 9 := by omega
    subst e
    have z : fd_dg q y = 0 := fd_Ne hq hY (fun l hl hll => hN l hl (Nat.lt_of_lt_of_le (Nat.lt_of_lt_of_le hll (by
      rw [fd_ps q 8, Nat.mul_comm]
      exact Nat.mul_le_mul_left _ (by have := fd_q1 hq; omega))) (Nat.le_refl _)))
    have K := hE rm fa og (fd_G0 z)
    rw [fd_ct0 z, Nat.add_zero] at K
    exact br_t (nI_le (a := 9) (b := 9) (by omega) (by omega)) K
  | succ k ih =>
    intro d n y j rm fa og hd hn h1 hY hN hj hE
    obtain ⟨n, rfl⟩ : ∃ j, n = j + 1 := ⟨n - 1, by omega⟩
    refine br_f (nI_ge (b := 9) (by omega) (by omega)) ⟨(q + 1) ^ d + 1, yw_29 hq h1 (by omega) (fun y' j' rm' fa' og' a b c2 d2 => ih (d + 1) n y' j' rm' fa' og' (by omega) (by omega) (by omega) a b c2 d2) _ ((q + 1) ^ d) y j rm fa og (by omega) (Nat.le_refl _) (by omega) hY hN hj hE⟩
theorem yw_split {post : SY → Prop} {x : Nat} {rm fo : Int32} {fa og : Nat → Int32} (hq : q = 1 ∨ q = 2 ∨ q = 4) (x0 : 0 < x) (hx : x < (q + 1) ^ 9) (h : ∀ rm' fa' og', (∀ t, t < fd_ct q 8 x → fa' t = nI (fd_lf q (fd_it q t x)) ∧ og' t = nI (fd_mu q (fd_lf q (fd_it q t x)) 8 (fd_it q t x))) → post (nI (q + 1), en, rm', nI (fd_ct q 8 x), rg, fa', og')) : wpY_split post (nI (q + 1), en, rm, fo, rg, fa, og) (nI x) := by
  have hY := fd_Ymo hq x0 hx
  have hS := fd_Smo hq x0 hx
  have m0 := fd_Y0 hY
  have m9 := fd_mo9 (q := q) x
  have ec := fd_Sct hq 8 _ _ m9 hx hS m0
  have K := yw_19 (en := en) (rg := rg) (post := post) hq 8 1 9 (fd_mo q x) 0 rm fa og (by omega) (by omega) (by omega) hY (by rw [Nat.pow_one]; exact fd_Np hq) (by have := fd_dg8 m9; omega) (fun rm' fa' og' hG => by
    rw [Nat.zero_add, ec]
    refine h rm' fa' og' (fun t ht => ?_)
    rw [← ec] at ht
    have g := hG.2 t ht
    rw [Nat.zero_add] at g
    obtain ⟨i0, i9⟩ := fd_itb hq t _ m0 m9
    obtain ⟨k0, k9⟩ := fd_itb hq t x x0 hx
    have S2 := fd_Sit hq t _ _ m9 hx hS m0
    have d1 := ((fd_ctS hq 8 _ m0 m9 (fd_dg8 m9)).2 t).mpr ht
    have e1 := fd_Slf hq i9 k9 S2 i0
    have e2 := (fd_woc hq (fd_lfF hq i9 d1).1 8 _ _ i9 k9 S2).2
    rw [e2, e1] at g
    exact g)
  rw [Nat.pow_one] at K
  unfold wpY_split
  exact yw_mo hq hx ⟨9, K⟩
theorem yw_irr {post : Int32 → SY → Prop} {x : Nat} {rm fo : Int32} {fa og : Nat → Int32} (hq : q = 1 ∨ q = 2 ∨ q = 4) (hx : x < (q + 1) ^ 9) (h1 : 1 ≤ fd_dg q x → fd_dg q (fd_lf q x) = fd_dg q x → ∀ rm' fo' fa' og', post 1 (nI (q + 1), en, rm', fo', rg, fa', og')) (h2 : ¬ (1 ≤ fd_dg q x ∧ fd_dg q (fd_lf q x) = fd_dg q x) → ∀ rm' fo' fa' og', post 0 (nI (q + 1), en, rm', fo', rg, fa', og')) : wpY_isPrime post (nI (q + 1), en, rm, fo, rg, fa, og) (nI x) := by
  have q5 := fd_bq hq
  unfold wpY_isPrime
  refine pk_le (q + 1) x (fun z => ?_) (fun z => h2 ?_ _ _ _ _) rfl rfl (by omega) (fw_b hq hx)
  · have x0 : 0 < x := by omega
    have x8 := fd_dg8 hx
    have d1 : 1 ≤ fd_dg q x := by
      rcases Nat.lt_or_ge (fd_dg q x) 1 with w | w
      · have a := fd_dgu x0 hx
        have b := fd_pm q (show fd_dg q x + 1 ≤ 1 by omega)
        rw [Nat.pow_one] at b
        omega
      · exact w
    have I := fd_irr hq x0 hx d1
    have c := fd_ctS hq 8 x x0 hx x8
    have c0 : 0 < fd_ct q 8 x := (c.2 0).mp d1
    refine yw_split hq x0 hx (fun rm' fa' og' g => ?_)
    have g0 := (g 0 c0).2
    obtain ⟨s1, s2, s3, s4, s5, s6, s7⟩ := fd_nxS hq x0 hx d1
    have m8 : fd_mu q (fd_lf q x) 8 x ≤ 8 := by
      have m1 := (fd_M0 hq (fd_lfF hq hx d1).1).2.2.1
      have : fd_mu q (fd_lf q x) 8 x ≤ fd_mu q (fd_lf q x) 8 x * fd_dg q (fd_lf q x) := Nat.le_mul_of_pos_right _ m1
      omega
    refine pk_eq (fd_ct q 8 x) 1 (fun w => pk_eq (fd_mu q (fd_lf q x) 8 x) 1 (fun v => h1 d1 (I.mpr ⟨w, v⟩) _ _ _ _) (fun v => h2 (fun u => v (I.mp u.2).2) _ _ _ _) g0 rfl (by omega) (by omega)) (fun w => h2 (fun u => w (I.mp u.2).1) _ _ _ _) rfl rfl (by omega) (by omega)
  · intro u
    have := fd_ll hx (show x < (q + 1) ^ 1 by rw [Nat.pow_one]; exact z)
    have := u.1
    unfold fd_dg at this
    omega
end
end
section
/-! the relation; the owed rows of the arithmetic -/
def fw_R (q : Nat) (rg : Nat → Int32) : Prop := ∀ i, i < 3 → ∃ c, c < (q + 1) ^ 9 ∧ rg i = nI c
theorem fw_Ru {q : Nat} {rg : Nat → Int32} (h : fw_R q rg) {j c : Nat} (hc : c < (q + 1) ^ 9) : fw_R q (upd rg j (nI c)) := by
  intro i hi
  by_cases e : i = j
  · subst e
    exact ⟨c, hc, pk_us⟩
  · obtain ⟨d, h1, h2⟩ := h i hi
    exact ⟨d, h1, by rw [pk_un e]; exact h2⟩
/-- the same prime, the same registers, each a code -/
def i_Rel (_ : Nat) (u : SX) (v : SY) : Prop :=
  ∃ (q : Nat) (pw rg : Nat → Int32) (rm fo : Int32) (fa og : Nat → Int32), (q = 1 ∨ q = 2 ∨ q = 4) ∧ u = (nI (q + 1), pw, rg) ∧ v = (nI (q + 1), nI ((q + 1) ^ 9), rm, fo, rg, fa, og) ∧ fw_P q pw ∧ fw_R q rg
theorem fw_rel {k q : Nat} {pw rg : Nat → Int32} {rm fo : Int32} {fa og : Nat → Int32} (hq : q = 1 ∨ q = 2 ∨ q = 4) (hp : fw_P q pw) (hr : fw_R q rg) : i_Rel k (nI (q + 1), pw, rg) (nI (q + 1), nI ((q + 1) ^ 9), rm, fo, rg, fa, og) :=
  ⟨q, pw, rg, rm, fo, fa, og, hq, rfl, rfl, hp, hr⟩
theorem i_up {k : Nat} {u : SX} {v : SY} (h : i_Rel k u v) : i_Rel (k + 4) u v := h
section
variable {q : Nat} {pw rg : Nat → Int32}
theorem xw_in50 {post : SX → Prop} (hq : q = 1 ∨ q = 2 ∨ q = 4) (h : ∀ pw', fw_P q pw' → post (nI (q + 1), pw', rg)) : ∀ d i n pw, i + d = 10 → d < n → 1 ≤ i → (∀ j, j < i → pw j = nI ((q + 1) ^ j)) → wX_init_50 post (nI (q + 1)) n (nI i) pw rg := by
  intro d
  induction d with
  | zero =>
    intro i n pw hi hn h1 hp
    obtain ⟨n, rfl⟩ : ∃ j, n = j + 1 := ⟨n - 1, by omega⟩
    exact br_t (nI_le (a := 10) (by omega) (by omega)) (h pw (fun j hj => hp j (by omega)))
  | succ d ih =>
    intro i n pw hi hn h1 hp
    obtain ⟨n, rfl⟩ : ∃ j, n = j + 1 := ⟨n - 1, by omega⟩
    have e : nI i - 1 = nI (i - 1) := pk_sub (b := 1) h1
    have e2 : pw (nI i - 1).toNatClampNeg * nI (q + 1) = nI ((q + 1) ^ i) := by
      rw [e, nI_clamp (by omega), hp (i - 1) (by omega), pk_mul, ← fd_ps, Nat.sub_add_cancel h1]
    refine br_f (nI_ge (b := 10) (by omega) (by omega)) ⟨by rw [e]; exact vp_in_nI (by omega) (by omega), vp_in_nI (by omega) (by omega), nm_r (e' := upd pw i (nI ((q + 1) ^ i))) (by rw [e2, nI_clamp (by omega)]) (nm_r (nI_1 i) (ih (i + 1) n _ (by omega) (by omega) (by omega) (fun j hj => ?_)))⟩
    by_cases z : j = i
    · subst z
      exact pk_us
    · rw [pk_un z]
      exact hp j (by omega)
theorem xw_in {post : SX → Prop} (hq : q = 1 ∨ q = 2 ∨ q = 4) (h : ∀ pw', fw_P q pw' → post (nI (q + 1), pw', rg)) : wX_init_38 post (nI (q + 1)) 0 (fun _ => 0) rg := by
  unfold wX_init_38
  refine nm_e ⟨10, xw_in50 hq h 9 1 10 _ (by omega) (by omega) (by omega) (fun j hj => ?_)⟩
  have z : j = 0 := by omega
  subst z
  rw [pk_us, Nat.pow_zero]
  rfl
theorem yw_in56 {post : SY → Prop} {rm fo : Int32} {fa og : Nat → Int32} (h : post (nI (q + 1), nI ((q + 1) ^ 9), rm, fo, rg, fa, og)) : ∀ d i n, i + d = 9 → d < n → wY_init_56 post (nI (q + 1)) rm fo rg fa og n (nI i) (nI ((q + 1) ^ i)) := by
  intro d
  induction d with
  | zero =>
    intro i n hi hn
    obtain ⟨n, rfl⟩ : ∃ j, n = j + 1 := ⟨n - 1, by omega⟩
    have e : i = 9 := by omega
    subst e
    exact br_t (nI_le (a := 9) (b := 9) (by omega) (by omega)) h
  | succ d ih =>
    intro i n hi hn
    obtain ⟨n, rfl⟩ : ∃ j, n = j + 1 := ⟨n - 1, by omega⟩
    exact br_f (nI_ge (b := 9) (by omega) (by omega)) (nm_r (e' := nI ((q + 1) ^ (i + 1))) (by rw [pk_mul, ← fd_ps]) (nm_r (nI_1 i) (ih (i + 1) n (by omega) (by omega))))
theorem yw_in {post : SY → Prop} {rm fo : Int32} {fa og : Nat → Int32} (h : post (nI (q + 1), nI ((q + 1) ^ 9), rm, fo, rg, fa, og)) : ∃ n, wY_init_56 post (nI (q + 1)) rm fo rg fa og n 0 1 := by
  have k := yw_in56 h 9 0 10 (by omega) (by omega)
  rw [Nat.pow_zero] at k
  exact ⟨10, k⟩
theorem fw_in {k : Nat} (hq : q = 1 ∨ q = 2 ∨ q = 4) : wX_init_38 (fun u => ∃ n, wY_init_56 (fun v => i_Rel k u v) (nI (q + 1)) 0 0 (fun _ => 0) (fun _ => 0) (fun _ => 0) n 0 1) (nI (q + 1)) 0 (fun _ => 0) (fun _ => 0) :=
  xw_in hq (fun pw' hp => yw_in (fw_rel hq hp (fun i _ => ⟨0, fd_pp q 9, rfl⟩)))
end
theorem fw_mono {z m : Int32} {pw rg : Nat → Int32} {A B : SX → Prop} (h : ∀ u, A u → B u) : ∀ n i pw, wX_init_50 A z n i pw rg → wX_init_50 B z n i pw rg := by
  intro n
  induction n with
  | zero => intro i pw k; exact k
  | succ n ih =>
    intro i pw k
    exact ⟨fun a => h _ (k.1 a), fun a => ⟨(k.2 a).1, (k.2 a).2.1, fun p e x ex => ih _ _ ((k.2 a).2.2 p e x ex)⟩⟩
theorem i_vc0 (k0 : Int32) : wpX_init (fun u => wpY_init (fun v => i_Rel 1 u v) k0) k0 := by
  unfold wpX_init wpY_init
  by_cases h0 : k0 = 0
  · refine br_t h0 (fun p e => ?_)
    obtain ⟨n, hn⟩ := fw_in (k := 1) (q := 1) (by omega) p e
    exact ⟨n, fw_mono (m := 0) (pw := p) (fun u hu => br_t h0 hu) n _ _ hn⟩
  · by_cases h1 : k0 = 1
    · refine br_f h0 (br_t h1 (fun p e => ?_))
      obtain ⟨n, hn⟩ := fw_in (k := 1) (q := 2) (by omega) p e
      exact ⟨n, fw_mono (m := 0) (pw := p) (fun u hu => br_f h0 (br_t h1 hu)) n _ _ hn⟩
    · refine br_f h0 (br_f h1 (fun p e => ?_))
      obtain ⟨n, hn⟩ := fw_in (k := 1) (q := 4) (by omega) p e
      exact ⟨n, fw_mono (m := 0) (pw := p) (fun u hu => br_f h0 (br_f h1 hu)) n _ _ hn⟩
section
variable {u : SX} {v : SY} {a : Int32} {post : Int32 → Prop}
theorem xreg0 (ha : a < 0 ∨ nI 3 ≤ a) (h : post 0) : wpX_isRegister post u a := by
  obtain ⟨m, pw, rg⟩ := u
  by_cases z : a < 0
  · exact br_t z h
  · rcases ha with w | w
    · exact absurd w z
    · exact br_f z (br_t w h)
theorem xreg1 {j : Nat} (hj : j < 3) (h : post 1) : wpX_isRegister post u (nI j) := by
  obtain ⟨m, pw, rg⟩ := u
  exact br_f (nI_pos (by omega)) (br_f (nI_ge (b := 3) hj (by omega)) h)
theorem ybad1 (ha : a < 0 ∨ nI 3 ≤ a) (h : post 1) : wpY_bad post v a := by
  obtain ⟨p, en, rm, fo, rg, fa, og⟩ := v
  by_cases z : a < 0
  · exact br_t z h
  · rcases ha with w | w
    · exact absurd w z
    · refine br_f z (br_f (fun y => ?_) h)
      have := Int32.le_trans w y
      exact absurd this (by decide)
theorem ybad0 {j : Nat} (hj : j < 3) (h : post 0) : wpY_bad post v (nI j) := by
  obtain ⟨p, en, rm, fo, rg, fa, og⟩ := v
  exact br_f (nI_pos (by omega)) (br_t (nI_le (b := 2) (by omega) (by omega)) h)
theorem fw_ix (a : Int32) : (a < 0 ∨ nI 3 ≤ a) ∨ ∃ j : Nat, j < 3 ∧ a = nI j := by
  rcases pk_ix a (n := 3) (by omega) with h | h | h
  · exact Or.inl (Or.inl h)
  · exact Or.inl (Or.inr h)
  · exact Or.inr h
end
theorem i_vc_prime {k : Nat} {u : SX} {v : SY} (I : i_Rel k u v) (hk : k + 4 ≤ 2049) : wpX_prime (fun r => wpY_prime (fun r' => r' = r ∧ i_Rel (k + 4) u v) v) u := by
  obtain ⟨q, pw, rg, rm, fo, fa, og, hq, rfl, rfl, hp, hr⟩ := I
  exact ⟨rfl, fw_rel hq hp hr⟩
theorem i_vc_load {k : Nat} {u : SX} {v : SY} (I : i_Rel k u v) (hk : k + 4 ≤ 2049) (v1 : Int32) (v2 : Int32) : wpX_load (fun r u' => wpY_load (fun r' v' => r' = r ∧ i_Rel (k + 4) u' v') v v1 v2) u v1 v2 := by
  obtain ⟨q, pw, rg, rm, fo, fa, og, hq, rfl, rfl, hp, hr⟩ := I
  unfold wpX_load wpY_load
  dsimp only
  rcases fw_ix v1 with hb | ⟨j, hj, rfl⟩
  · exact xreg0 hb (br_t rfl (ybad1 hb (br_f (by decide) ⟨rfl, fw_rel hq hp hr⟩)))
  · refine xreg1 hj (br_f (by decide) ?_)
    have hin : vp_in (nI j) 3 := vp_in_nI hj (by omega)
    by_cases z : v2 < 0
    · exact br_t z (ybad0 hj (br_t rfl (br_t z ⟨rfl, fw_rel hq hp hr⟩)))
    · refine br_f z ?_
      rw [hp 9 (by omega)]
      by_cases w : v2 < nI ((q + 1) ^ 9)
      · refine br_t w ⟨hin, nm_e ⟨hin, nm_e (ybad0 hj (br_t rfl (br_f z (br_t w ⟨hin, nm_e ⟨hin, nm_e ⟨rfl, ?_⟩⟩⟩))))⟩⟩
        obtain ⟨c, hc, rfl⟩ := nI_of z
        exact fw_rel hq hp (fw_Ru hr ((nI_ltI hc (fw_pl hq (by omega))).mp w))
      · exact br_f w (ybad0 hj (br_t rfl (br_f z (br_f w ⟨rfl, fw_rel hq hp hr⟩))))
theorem i_vc_code {k : Nat} {u : SX} {v : SY} (I : i_Rel k u v) (hk : k + 4 ≤ 2049) (v1 : Int32) : wpX_code (fun r => wpY_code (fun r' => r' = r ∧ i_Rel (k + 4) u v) v v1) u v1 := by
  obtain ⟨q, pw, rg, rm, fo, fa, og, hq, rfl, rfl, hp, hr⟩ := I
  unfold wpX_code wpY_code
  dsimp only
  rcases fw_ix v1 with hb | ⟨j, hj, rfl⟩
  · exact xreg0 hb (br_t rfl (ybad1 hb (br_f (by decide) ⟨rfl, fw_rel hq hp hr⟩)))
  · have hin : vp_in (nI j) 3 := vp_in_nI hj (by omega)
    exact xreg1 hj (br_f (by decide) ⟨hin, ybad0 hj (br_t rfl ⟨hin, rfl, fw_rel hq hp hr⟩)⟩)
theorem fw_rg {q : Nat} {rg : Nat → Int32} (hr : fw_R q rg) {j : Nat} (hj : j < 3) : ∃ c, c < (q + 1) ^ 9 ∧ rg (nI j).toNatClampNeg = nI c := by
  rw [nI_clamp (by omega)]
  exact hr j hj
theorem i_vc_degree {k : Nat} {u : SX} {v : SY} (I : i_Rel k u v) (hk : k + 4 ≤ 2049) (v1 : Int32) : wpX_degree (fun r => wpY_degree (fun r' => r' = r ∧ i_Rel (k + 4) u v) v v1) u v1 := by
  obtain ⟨q, pw, rg, rm, fo, fa, og, hq, rfl, rfl, hp, hr⟩ := I
  unfold wpX_degree wpY_degree
  dsimp only
  rcases fw_ix v1 with hb | ⟨j, hj, rfl⟩
  · exact xreg0 hb (br_t rfl (ybad1 hb (br_f (by decide) ⟨rfl, fw_rel hq hp hr⟩)))
  · have hin : vp_in (nI j) 3 := vp_in_nI hj (by omega)
    obtain ⟨x, hx, e⟩ := fw_rg hr hj
    refine xreg1 hj (br_f (by decide) ⟨hin, ?_⟩)
    rw [e]
    exact xw_deg hq hp hx (ybad0 hj (br_t rfl ⟨hin, yw_deg hq hx ⟨rfl, fw_rel hq hp hr⟩⟩))
theorem i_vc_add {k : Nat} {u : SX} {v : SY} (I : i_Rel k u v) (hk : k + 4 ≤ 2049) (v1 : Int32) (v2 : Int32) : wpX_add (fun r u' => wpY_add (fun r' v' => r' = r ∧ i_Rel (k + 4) u' v') v v1 v2) u v1 v2 := by
  obtain ⟨q, pw, rg, rm, fo, fa, og, hq, rfl, rfl, hp, hr⟩ := I
  unfold wpX_add wpY_add
  dsimp only
  rcases fw_ix v1 with hb | ⟨j, hj, rfl⟩
  · exact xreg0 hb (br_t rfl (ybad1 hb (br_f (by decide) ⟨rfl, fw_rel hq hp hr⟩)))
  · refine xreg1 hj (br_f (by decide) ?_)
    rcases fw_ix v2 with hb | ⟨l, hl, rfl⟩
    · exact xreg0 hb (br_t rfl (ybad0 hj (br_t rfl (ybad1 hb (br_f (by decide) ⟨rfl, fw_rel hq hp hr⟩)))))
    · have hin : vp_in (nI j) 3 := vp_in_nI hj (by omega)
      have hil : vp_in (nI l) 3 := vp_in_nI hl (by omega)
      obtain ⟨x, hx, e⟩ := fw_rg hr hj
      obtain ⟨y, hy, e2⟩ := fw_rg hr hl
      refine xreg1 hl (br_f (by decide) ⟨hin, hil, ?_⟩)
      rw [e, e2]
      exact xw_c (k := 1) hq hp hx hy (by omega) ⟨hin, nm_e ⟨hin, ybad0 hj (br_t rfl (ybad0 hl (br_t rfl ⟨hin, hil, yw_c (k := 1) hq hx hy (by omega) ⟨hin, nm_e ⟨hin, rfl, fw_rel hq hp (fw_Ru hr (fd_clt q _ _ _ 9))⟩⟩⟩)))⟩⟩
theorem i_vc_subtract {k : Nat} {u : SX} {v : SY} (I : i_Rel k u v) (hk : k + 4 ≤ 2049) (v1 : Int32) (v2 : Int32) : wpX_subtract (fun r u' => wpY_subtract (fun r' v' => r' = r ∧ i_Rel (k + 4) u' v') v v1 v2) u v1 v2 := by
  obtain ⟨q, pw, rg, rm, fo, fa, og, hq, rfl, rfl, hp, hr⟩ := I
  unfold wpX_subtract wpY_subtract
  dsimp only
  have q5 := fd_bq hq
  rcases fw_ix v1 with hb | ⟨j, hj, rfl⟩
  · exact xreg0 hb (br_t rfl (ybad1 hb (br_f (by decide) ⟨rfl, fw_rel hq hp hr⟩)))
  · refine xreg1 hj (br_f (by decide) ?_)
    rcases fw_ix v2 with hb | ⟨l, hl, rfl⟩
    · exact xreg0 hb (br_t rfl (ybad0 hj (br_t rfl (ybad1 hb (br_f (by decide) ⟨rfl, fw_rel hq hp hr⟩)))))
    · have hin : vp_in (nI j) 3 := vp_in_nI hj (by omega)
      have hil : vp_in (nI l) 3 := vp_in_nI hl (by omega)
      obtain ⟨x, hx, e⟩ := fw_rg hr hj
      obtain ⟨y, hy, e2⟩ := fw_rg hr hl
      refine xreg1 hl (br_f (by decide) ⟨hin, hil, ?_⟩)
      rw [e, e2, nI_pred]
      exact xw_c (k := q) hq hp hx hy (by omega) ⟨hin, nm_e ⟨hin, ybad0 hj (br_t rfl (ybad0 hl (br_t rfl ⟨hin, hil, yw_c (k := q) hq hx hy (by omega) ⟨hin, nm_e ⟨hin, rfl, fw_rel hq hp (fw_Ru hr (fd_clt q _ _ _ 9))⟩⟩⟩)))⟩⟩
end
section
/-! multiply, divide, divisor, derive, valueAt, roots -/
theorem fd_c00 (q k : Nat) : ∀ n, fd_c q 0 k 0 n = 0 := by
  intro n
  induction n with
  | zero => rfl
  | succ n ih =>
    simp only [fd_c]
    rw [ih, Nat.zero_div, Nat.mul_zero, Nat.zero_mod, Nat.zero_mul]
theorem fd_p0x (q y : Nat) : ∀ n, fd_pr q 0 y n = 0 := by
  intro n
  induction n with
  | zero => rfl
  | succ n ih =>
    simp only [fd_pr]
    rw [ih, Nat.zero_mul, fd_c00]
theorem fd_px0 (q x : Nat) : ∀ n, fd_pr q x 0 n = 0 := by
  intro n
  induction n with
  | zero => rfl
  | succ n ih =>
    simp only [fd_pr]
    rw [ih, Nat.zero_div, Nat.zero_mod, fd_cp (Nat.zero_mod _) (fd_pp q 9)]
theorem fw_neg {q x : Nat} (h : x = 0) : nI (fd_ln q x) + (-1) < 0 := by
  subst h
  rw [fw_d0]
  decide
theorem fw_nn {q x : Nat} (h0 : 0 < x) (hx : x < (q + 1) ^ 9) : ¬ nI (fd_ln q x) + (-1) < 0 := by
  rw [fw_dI h0 hx]
  exact nI_pos (by have := fd_dg8 hx; omega)
theorem fw_m1d : ∀ n, n < 9 → (-1 : Int32) + nI n ≤ 8 ∧ nI n + (-1 : Int32) ≤ 8 := by decide
theorem i_vc_multiply {k : Nat} {u : SX} {v : SY} (I : i_Rel k u v) (hk : k + 4 ≤ 2049) (v1 : Int32) (v2 : Int32) : wpX_multiply (fun r u' => wpY_multiply (fun r' v' => r' = r ∧ i_Rel (k + 4) u' v') v v1 v2) u v1 v2 := by
  obtain ⟨q, pw, rg, rm, fo, fa, og, hq, rfl, rfl, hp, hr⟩ := I
  unfold wpX_multiply wpY_multiply
  dsimp only
  rcases fw_ix v1 with hb | ⟨j, hj, rfl⟩
  · exact xreg0 hb (br_t rfl (ybad1 hb (br_f (by decide) ⟨rfl, fw_rel hq hp hr⟩)))
  · refine xreg1 hj (br_f (by decide) ?_)
    rcases fw_ix v2 with hb | ⟨l, hl, rfl⟩
    · exact xreg0 hb (br_t rfl (ybad0 hj (br_t rfl (ybad1 hb (br_f (by decide) ⟨rfl, fw_rel hq hp hr⟩)))))
    · have hin : vp_in (nI j) 3 := vp_in_nI hj (by omega)
      have hil : vp_in (nI l) 3 := vp_in_nI hl (by omega)
      obtain ⟨x, hx, e⟩ := fw_rg hr hj
      obtain ⟨y, hy, e2⟩ := fw_rg hr hl
      have x8 := fd_dg8 hx
      have y8 := fd_dg8 hy
      refine xreg1 hl (br_f (by decide) ⟨hin, ?_⟩)
      rw [e, e2]
      refine xw_deg hq hp hx ⟨hil, xw_deg hq hp hy ?_⟩
      rcases Nat.eq_zero_or_pos x with x0 | x0
      · have le : nI (fd_ln q x) + (-1) + (nI (fd_ln q y) + (-1)) ≤ 8 := by
          rw [x0, fw_d0]
          rcases Nat.eq_zero_or_pos y with y0 | y0
          · rw [y0, fw_d0]
            decide
          · rw [fw_dI y0 hy]
            exact (fw_m1d _ (by omega)).1
        have pz : fd_pr q x y 9 = 0 := by rw [x0, fd_p0x]
        refine br_t le ⟨hin, hil, xw_p hq hp hx hy (fun i _ _ => by rw [x0, Nat.zero_mul]; exact fd_pp q 9) ?_⟩
        rw [pz]
        refine ⟨hin, nm_e ⟨hin, ybad0 hj (br_t rfl (ybad0 hl (br_t rfl ⟨hin, ?_⟩)))⟩⟩
        exact yw_deg hq hx ⟨hil, yw_deg hq hy (br_t (fw_neg x0) (br_t (fw_neg x0) ⟨hin, nm_e ⟨hin, rfl, fw_rel hq hp (fw_Ru hr (fd_pp q 9))⟩⟩))⟩
      · rcases Nat.eq_zero_or_pos y with y0 | y0
        · have le : nI (fd_ln q x) + (-1) + (nI (fd_ln q y) + (-1)) ≤ 8 := by
            rw [y0, fw_d0, fw_dI x0 hx]
            exact (fw_m1d _ (by omega)).2
          have pz : fd_pr q x y 9 = 0 := by rw [y0, fd_px0]
          refine br_t le ⟨hin, hil, xw_p hq hp hx hy (fun i _ z => by rw [y0, Nat.zero_div, Nat.zero_mod] at z; exact absurd rfl z) ?_⟩
          rw [pz]
          refine ⟨hin, nm_e ⟨hin, ybad0 hj (br_t rfl (ybad0 hl (br_t rfl ⟨hin, ?_⟩)))⟩⟩
          exact yw_deg hq hx ⟨hil, yw_deg hq hy (br_f (fw_nn x0 hx) (br_t (fw_neg y0) (br_f (fw_nn x0 hx) (br_f (fun z => absurd (Int32.lt_of_le_of_lt z (fw_neg y0)) (by decide)) ⟨hin, nm_e ⟨hin, rfl, fw_rel hq hp (fw_Ru hr (fd_pp q 9))⟩⟩))))⟩
        · have es : nI (fd_ln q x) + (-1) + (nI (fd_ln q y) + (-1)) = nI (fd_dg q x + fd_dg q y) := by
            rw [fw_dI x0 hx, fw_dI y0 hy, nI_add]
          have ge : (0 : Int32) ≤ nI (fd_ln q y) + (-1) := Int32.not_lt.mp (fw_nn y0 hy)
          by_cases le : nI (fd_ln q x) + (-1) + (nI (fd_ln q y) + (-1)) ≤ 8
          · have ld : fd_dg q x + fd_dg q y ≤ 8 := by
              rw [es] at le
              exact (nI_leI (b := 8) (by omega) (by omega)).mp le
            refine br_t le ⟨hin, hil, xw_p hq hp hx hy (fw_pd x0 hx y0 hy ld) ⟨hin, nm_e ⟨hin, ybad0 hj (br_t rfl (ybad0 hl (br_t rfl ⟨hin, ?_⟩)))⟩⟩⟩
            refine yw_deg hq hx ⟨hil, yw_deg hq hy (br_f (fw_nn x0 hx) (br_f (fw_nn y0 hy) (br_t le (br_f (fw_nn x0 hx) (br_t ge ⟨hin, hil, ?_⟩)))))⟩
            rw [e, e2]
            exact yw_p hq hx x0 y0 hy ld ⟨hin, nm_e ⟨hin, rfl, fw_rel hq hp (fw_Ru hr (fd_pr9 x y 9))⟩⟩
          · refine br_f le (ybad0 hj (br_t rfl (ybad0 hl (br_t rfl ⟨hin, ?_⟩))))
            exact yw_deg hq hx ⟨hil, yw_deg hq hy (br_f (fw_nn x0 hx) (br_f (fw_nn y0 hy) (br_f le ⟨rfl, fw_rel hq hp hr⟩)))⟩
theorem i_vc_divide {k : Nat} {u : SX} {v : SY} (I : i_Rel k u v) (hk : k + 4 ≤ 2049) (v1 : Int32) (v2 : Int32) (v3 : Int32) : wpX_divide (fun r u' => wpY_divide (fun r' v' => r' = r ∧ i_Rel (k + 4) u' v') v v1 v2 v3) u v1 v2 v3 := by
  obtain ⟨q, pw, rg, rm, fo, fa, og, hq, rfl, rfl, hp, hr⟩ := I
  unfold wpX_divide wpY_divide
  dsimp only
  rcases fw_ix v1 with hb | ⟨j, hj, rfl⟩
  · exact xreg0 hb (br_t rfl (ybad1 hb (br_f (by decide) ⟨rfl, fw_rel hq hp hr⟩)))
  refine xreg1 hj (br_f (by decide) ?_)
  rcases fw_ix v2 with hb | ⟨l, hl, rfl⟩
  · exact xreg0 hb (br_t rfl (ybad0 hj (br_t rfl (ybad1 hb (br_f (by decide) ⟨rfl, fw_rel hq hp hr⟩)))))
  refine xreg1 hl (br_f (by decide) ?_)
  rcases fw_ix v3 with hb | ⟨m, hm, rfl⟩
  · exact xreg0 hb (br_t rfl (ybad0 hj (br_t rfl (ybad0 hl (br_t rfl (ybad1 hb (br_f (by decide) ⟨rfl, fw_rel hq hp hr⟩)))))))
  refine xreg1 hm (br_f (by decide) ?_)
  have hij : vp_in (nI j) 3 := vp_in_nI hj (by omega)
  have hil : vp_in (nI l) 3 := vp_in_nI hl (by omega)
  have him : vp_in (nI m) 3 := vp_in_nI hm (by omega)
  have Y : ∀ {P : Int32 → Prop}, P 0 → wpY_bad P (nI (q + 1), nI ((q + 1) ^ 9), rm, fo, rg, fa, og) (nI j) := fun h => ybad0 hj h
  by_cases a1 : nI j = nI l
  · exact br_t a1 (ybad0 hj (br_t rfl (ybad0 hl (br_t rfl (ybad0 hm (br_t rfl (br_t a1 ⟨rfl, fw_rel hq hp hr⟩)))))))
  refine br_f a1 ?_
  by_cases a2 : nI j = nI m
  · exact br_t a2 (ybad0 hj (br_t rfl (ybad0 hl (br_t rfl (ybad0 hm (br_t rfl (br_f a1 (br_t a2 ⟨rfl, fw_rel hq hp hr⟩))))))))
  refine br_f a2 ?_
  by_cases a3 : nI l = nI m
  · exact br_t a3 (ybad0 hj (br_t rfl (ybad0 hl (br_t rfl (ybad0 hm (br_t rfl (br_f a1 (br_f a2 (br_t a3 ⟨rfl, fw_rel hq hp hr⟩)))))))))
  refine br_f a3 ⟨him, ?_⟩
  by_cases a4 : rg (nI m).toNatClampNeg = 0
  · exact br_t a4 (ybad0 hj (br_t rfl (ybad0 hl (br_t rfl (ybad0 hm (br_t rfl (br_f a1 (br_f a2 (br_f a3 ⟨him, br_t a4 ⟨rfl, fw_rel hq hp hr⟩⟩)))))))))
  refine br_f a4 ⟨hil, him, ?_⟩
  obtain ⟨x, hx, e⟩ := fw_rg hr hl
  obtain ⟨y, hy, e2⟩ := fw_rg hr hm
  have y0 : 0 < y := by
    rcases Nat.eq_zero_or_pos y with z | z
    · rw [e2, z] at a4
      exact absurd rfl a4
    · exact z
  have n1 : (nI l).toNatClampNeg ≠ (nI j).toNatClampNeg := by
    rw [nI_clamp (by omega), nI_clamp (by omega)]
    intro z
    rw [z] at a1
    exact a1 rfl
  have n2 : (nI m).toNatClampNeg ≠ (nI j).toNatClampNeg := by
    rw [nI_clamp (by omega), nI_clamp (by omega)]
    intro z
    rw [z] at a2
    exact a2 rfl
  have h9 := fd_qt9 hq hx y0 hy
  have r9 := fd_rm9 hq hx y0 hy
  have X1 : ∀ {post : Int32 → Prop}, post (nI (fd_qt q x y)) → wpX_quotientOf post (nI (q + 1), pw, rg) (rg (nI l).toNatClampNeg) (rg (nI m).toNatClampNeg) := by
    intro post h
    rw [e, e2]
    exact xw_q hq hp hx y0 hy h
  have X2 : ∀ {post : Int32 → Prop} {w : Int32}, post (nI (fd_rm q x y)) → wpX_remainderOf post (nI (q + 1), pw, upd rg (nI j).toNatClampNeg w) (upd rg (nI j).toNatClampNeg w (nI l).toNatClampNeg) (upd rg (nI j).toNatClampNeg w (nI m).toNatClampNeg) := by
    intro post w h
    rw [pk_un n1, pk_un n2, e, e2]
    exact xw_r hq hp hx y0 hy h
  have Y1 : ∀ {post : Int32 → SY → Prop}, post (nI (fd_qt q x y)) (nI (q + 1), nI ((q + 1) ^ 9), nI (fd_rm q x y), fo, rg, fa, og) → wpY_quotient post (nI (q + 1), nI ((q + 1) ^ 9), rm, fo, rg, fa, og) (rg (nI l).toNatClampNeg) (rg (nI m).toNatClampNeg) := by
    intro post h
    rw [e, e2]
    exact yw_q hq hx y0 hy h
  exact X1 ⟨hij, nm_e ⟨hil, him, X2 ⟨hil, nm_e ⟨hij, ybad0 hj (br_t rfl (ybad0 hl (br_t rfl (ybad0 hm (br_t rfl (br_f a1 (br_f a2 (br_f a3 ⟨him, br_f a4 ⟨hil, him, Y1 ⟨hij, nm_e ⟨hil, nm_e ⟨hij, rfl, fw_rel hq hp (fw_Ru (fw_Ru hr h9) r9)⟩⟩⟩⟩⟩)))))))) ⟩⟩⟩⟩
theorem i_vc_divisor {k : Nat} {u : SX} {v : SY} (I : i_Rel k u v) (hk : k + 4 ≤ 2049) (v1 : Int32) (v2 : Int32) : wpX_divisor (fun r u' => wpY_divisor (fun r' v' => r' = r ∧ i_Rel (k + 4) u' v') v v1 v2) u v1 v2 := by
  obtain ⟨q, pw, rg, rm, fo, fa, og, hq, rfl, rfl, hp, hr⟩ := I
  unfold wpX_divisor wpY_divisor
  dsimp only
  rcases fw_ix v1 with hb | ⟨j, hj, rfl⟩
  · exact xreg0 hb (br_t rfl (ybad1 hb (br_f (by decide) ⟨rfl, fw_rel hq hp hr⟩)))
  · refine xreg1 hj (br_f (by decide) ?_)
    rcases fw_ix v2 with hb | ⟨l, hl, rfl⟩
    · exact xreg0 hb (br_t rfl (ybad0 hj (br_t rfl (ybad1 hb (br_f (by decide) ⟨rfl, fw_rel hq hp hr⟩)))))
    · have hin : vp_in (nI j) 3 := vp_in_nI hj (by omega)
      have hil : vp_in (nI l) 3 := vp_in_nI hl (by omega)
      obtain ⟨x, hx, e⟩ := fw_rg hr hj
      obtain ⟨y, hy, e2⟩ := fw_rg hr hl
      have g := (fd_gck hq 9 x y hx hy (fd_l9 hy)).2
      have g2 : fd_gc q 10 x y = fd_gc q 12 x y := by rw [g 10 (by omega), g 12 (by omega)]
      refine xreg1 hl (br_f (by decide) ⟨hin, hil, ?_⟩)
      rw [e, e2]
      refine xw_g hq hp hx hy ?_
      rw [g2]
      exact ⟨hin, nm_e ⟨hin, ybad0 hj (br_t rfl (ybad0 hl (br_t rfl ⟨hin, hil, yw_g hq hx hy (fun rm' => ⟨hin, nm_e ⟨hin, rfl, fw_rel hq hp (fw_Ru hr (fd_mo9 _))⟩⟩)⟩)))⟩⟩
theorem yw_de17 {q j x : Nat} {post : Int32 → SY → Prop} {en rm fo : Int32} {rg fa og : Nat → Int32} (hq : q = 1 ∨ q = 2 ∨ q = 4) (hj : j < 3) (hx : x < (q + 1) ^ 9) (e : rg (nI j).toNatClampNeg = nI x) (h : post (nI (fd_de q x 8)) (nI (q + 1), en, rm, fo, upd rg (nI j).toNatClampNeg (nI (fd_de q x 8)), fa, og)) : ∀ d i n, i + d = 8 → d < n → wY_derive_17 post (nI j) (nI (q + 1)) en rm fo rg fa og n (nI (fd_de q x i)) (nI ((q + 1) ^ i)) (nI (i + 1)) := by
  have q5 := fd_bq hq
  have hin : vp_in (nI j) 3 := vp_in_nI hj (by omega)
  intro d
  induction d with
  | zero =>
    intro i n hi hn
    obtain ⟨n, rfl⟩ : ∃ j, n = j + 1 := ⟨n - 1, by omega⟩
    have e : i = 8 := by omega
    subst e
    exact br_t (nI_le (a := 9) (b := 9) (by omega) (by omega)) ⟨hin, nm_e h⟩
  | succ d ih =>
    intro i n hi hn
    obtain ⟨n, rfl⟩ : ∃ j, n = j + 1 := ⟨n - 1, by omega⟩
    have m1 := Nat.mod_lt (x / (q + 1) ^ (i + 1)) (show 0 < q + 1 by omega)
    have bm : x / (q + 1) ^ (i + 1) % (q + 1) * (i + 1) ≤ 5 * 8 := Nat.mul_le_mul (by omega) (by omega)
    refine br_f (nI_ge (b := 9) (by omega) (by omega)) ⟨hin, ?_⟩
    rw [e]
    refine yw_dig hq hx (by omega) ⟨fw_m hq, nm_r (e' := nI (fd_de q x (i + 1))) ?_ (nm_r (e' := nI ((q + 1) ^ (i + 1))) ?_ (nm_r (nI_1 (i + 1)) (ih (i + 1) n (by omega) (by omega))))⟩
    · rw [pk_mul, pk_rem (by omega) (by omega) (by omega), pk_mul, nI_add]
      rfl
    · rw [pk_mul, ← fd_ps]
theorem i_vc_derive {k : Nat} {u : SX} {v : SY} (I : i_Rel k u v) (hk : k + 4 ≤ 2049) (v1 : Int32) : wpX_derive (fun r u' => wpY_derive (fun r' v' => r' = r ∧ i_Rel (k + 4) u' v') v v1) u v1 := by
  obtain ⟨q, pw, rg, rm, fo, fa, og, hq, rfl, rfl, hp, hr⟩ := I
  unfold wpX_derive wpY_derive
  dsimp only
  rcases fw_ix v1 with hb | ⟨j, hj, rfl⟩
  · exact xreg0 hb (br_t rfl (ybad1 hb (br_f (by decide) ⟨rfl, fw_rel hq hp hr⟩)))
  · have hin : vp_in (nI j) 3 := vp_in_nI hj (by omega)
    obtain ⟨x, hx, e⟩ := fw_rg hr hj
    have d9 : fd_de q x 8 < (q + 1) ^ 9 := Nat.lt_of_lt_of_le (fd_del x 8) (fd_pm q (by omega))
    have X1 : ∀ {post : Int32 → Prop}, post (nI (fd_de q x 8)) → wpX_derivativeOf post (nI (q + 1), pw, rg) (rg (nI j).toNatClampNeg) := by
      intro post h
      rw [e]
      exact xw_d hq hp hx h
    refine xreg1 hj (br_f (by decide) ⟨hin, X1 ⟨hin, nm_e ⟨hin, ybad0 hj (br_t rfl ⟨9, ?_⟩)⟩⟩⟩)
    exact yw_de17 hq hj hx e ⟨pk_us.symm, fw_rel hq hp (fw_Ru hr d9)⟩ 8 0 9 (by omega) (by omega)
theorem fw_pt {q : Nat} (hq : q = 1 ∨ q = 2 ∨ q = 4) (x : Int32) : ∃ t, t < q + 1 ∧ fmv x (nI (q + 1)) = nI t := by
  have e : (nI (q + 1)).toInt = ((q + 1 : Nat) : Int) := nI_toInt (by omega)
  obtain ⟨a, b⟩ := fmv_bounds (a := x) (m := nI (q + 1)) (by rw [e]; omega)
  have nn : ¬ fmv x (nI (q + 1)) < 0 := by
    rw [Int32.lt_iff_toInt_lt, show (0 : Int32).toInt = 0 from by decide]
    omega
  obtain ⟨t, ht, et⟩ := nI_of nn
  refine ⟨t, ?_, et⟩
  rw [et, e, nI_toInt ht] at b
  omega
theorem i_vc_valueAt {k : Nat} {u : SX} {v : SY} (I : i_Rel k u v) (hk : k + 4 ≤ 2049) (v1 : Int32) (v2 : Int32) : wpX_valueAt (fun r => wpY_valueAt (fun r' => r' = r ∧ i_Rel (k + 4) u v) v v1 v2) u v1 v2 := by
  obtain ⟨q, pw, rg, rm, fo, fa, og, hq, rfl, rfl, hp, hr⟩ := I
  unfold wpX_valueAt wpY_valueAt
  dsimp only
  rcases fw_ix v1 with hb | ⟨j, hj, rfl⟩
  · exact xreg0 hb (br_t rfl (ybad1 hb (br_f (by decide) ⟨rfl, fw_rel hq hp hr⟩)))
  · have hin : vp_in (nI j) 3 := vp_in_nI hj (by omega)
    obtain ⟨x, hx, e⟩ := fw_rg hr hj
    obtain ⟨t, ht, et⟩ := fw_pt hq v2
    refine xreg1 hj (br_f (by decide) ⟨fw_m hq, nm_e ?_⟩)
    by_cases z : 0 ≤ v2 - v2 / nI (q + 1) * nI (q + 1)
    · have e3 : v2 - v2 / nI (q + 1) * nI (q + 1) = nI t := by
        rw [← et]
        exact (if_pos z).symm
      refine br_t z ⟨hin, ?_⟩
      rw [e, e3]
      refine xw_v hq hp hx ht (ybad0 hj (br_t rfl ⟨fw_m hq, nm_e ⟨hin, br_t ?_ ?_⟩⟩))
      · exact nI_pos' (by omega)
      · unfold wY_valueAt_38
        exact yw_v hq hx ht ⟨rfl, fw_rel hq hp hr⟩
    · have e3 : v2 - v2 / nI (q + 1) * nI (q + 1) + nI (q + 1) = nI t := by
        rw [← et]
        exact (if_neg z).symm
      refine br_f z (nm_e ⟨hin, ?_⟩)
      rw [e, e3]
      refine xw_v hq hp hx ht (ybad0 hj (br_t rfl ⟨fw_m hq, nm_e ⟨hin, br_f z ?_⟩⟩))
      unfold wY_valueAt_38
      rw [e3]
      exact yw_v hq hx ht ⟨rfl, fw_rel hq hp hr⟩
def fd_rt (q x : Nat) : Nat → Nat
  | 0 => 0
  | i + 1 => fd_rt q x i + if fd_va q x i 9 0 = 0 then 1 else 0
theorem fd_val {q x t : Nat} : ∀ k v, v < q + 1 → fd_va q x t k v < q + 1 := by
  intro k
  induction k with
  | zero => intro v hv; exact hv
  | succ k ih => intro v _; exact ih _ (Nat.mod_lt _ (by omega))
theorem xw_ro {q j x : Nat} {post : Int32 → Prop} {pw rg : Nat → Int32} (hq : q = 1 ∨ q = 2 ∨ q = 4) (hp : fw_P q pw) (hj : j < 3) (hx : x < (q + 1) ^ 9) (e : rg (nI j).toNatClampNeg = nI x) (h : post (nI (fd_rt q x (q + 1)))) : ∀ d i n, i + d = q + 1 → d < n → wX_roots_14 post (nI j) (nI (q + 1)) pw rg n (nI (fd_rt q x i)) (nI i) := by
  have q5 := fd_bq hq
  have hin : vp_in (nI j) 3 := vp_in_nI hj (by omega)
  intro d
  induction d with
  | zero =>
    intro i n hi hn
    obtain ⟨n, rfl⟩ : ∃ j, n = j + 1 := ⟨n - 1, by omega⟩
    have e : i = q + 1 := by omega
    subst e
    exact br_t (nI_le (Nat.le_refl _) (by omega)) h
  | succ d ih =>
    intro i n hi hn
    obtain ⟨n, rfl⟩ : ∃ j, n = j + 1 := ⟨n - 1, by omega⟩
    have K := ih (i + 1) n (by omega) (by omega)
    simp only [fd_rt] at K
    have vl := fd_val (q := q) (x := x) (t := i) 9 0 (by omega)
    refine br_f (nI_ge (by omega) (by omega)) ⟨hin, ?_⟩
    rw [e]
    refine xw_v hq hp hx (by omega) (pk_eq (fd_va q x i 9 0) 0 (fun z => ?_) (fun z => ?_) rfl rfl (by omega) (by omega))
    · rw [if_pos z] at K
      exact nm_r (nI_1 _) (nm_r (nI_1 i) K)
    · rw [if_neg z, Nat.add_zero] at K
      exact nm_r (nI_1 i) K
theorem yw_ro {q j x : Nat} {post : Int32 → Prop} {en rm fo : Int32} {rg fa og : Nat → Int32} (hq : q = 1 ∨ q = 2 ∨ q = 4) (hj : j < 3) (hx : x < (q + 1) ^ 9) (e : rg (nI j).toNatClampNeg = nI x) (h : post (nI (fd_rt q x (q + 1)))) : ∀ d i n, i + d = q + 1 → d < n → wY_roots_14 post (nI j) (nI (q + 1)) en rm fo rg fa og n (nI (fd_rt q x i)) (nI i) := by
  have q5 := fd_bq hq
  have hin : vp_in (nI j) 3 := vp_in_nI hj (by omega)
  intro d
  induction d with
  | zero =>
    intro i n hi hn
    obtain ⟨n, rfl⟩ : ∃ j, n = j + 1 := ⟨n - 1, by omega⟩
    have e : i = q + 1 := by omega
    subst e
    exact br_t (nI_le (Nat.le_refl _) (by omega)) h
  | succ d ih =>
    intro i n hi hn
    obtain ⟨n, rfl⟩ : ∃ j, n = j + 1 := ⟨n - 1, by omega⟩
    have K := ih (i + 1) n (by omega) (by omega)
    simp only [fd_rt] at K
    have vl := fd_val (q := q) (x := x) (t := i) 9 0 (by omega)
    refine br_f (nI_ge (by omega) (by omega)) ⟨hin, ?_⟩
    rw [e]
    refine yw_v hq hx (by omega) (pk_eq (fd_va q x i 9 0) 0 (fun z => ?_) (fun z => ?_) rfl rfl (by omega) (by omega))
    · rw [if_pos z] at K
      exact nm_r (nI_1 _) (nm_r (nI_1 i) K)
    · rw [if_neg z, Nat.add_zero] at K
      exact nm_r (nI_1 i) K
theorem i_vc_roots {k : Nat} {u : SX} {v : SY} (I : i_Rel k u v) (hk : k + 4 ≤ 2049) (v1 : Int32) : wpX_roots (fun r => wpY_roots (fun r' => r' = r ∧ i_Rel (k + 4) u v) v v1) u v1 := by
  obtain ⟨q, pw, rg, rm, fo, fa, og, hq, rfl, rfl, hp, hr⟩ := I
  unfold wpX_roots wpY_roots
  dsimp only
  rcases fw_ix v1 with hb | ⟨j, hj, rfl⟩
  · exact xreg0 hb (br_t rfl (ybad1 hb (br_f (by decide) ⟨rfl, fw_rel hq hp hr⟩)))
  · obtain ⟨x, hx, e⟩ := fw_rg hr hj
    have q5 := fd_bq hq
    refine xreg1 hj (br_f (by decide) ⟨10, ?_⟩)
    refine xw_ro hq hp hj hx e ?_ (q + 1) 0 10 (by omega) (by omega)
    refine ybad0 hj (br_t rfl ⟨10, ?_⟩)
    exact yw_ro hq hj hx e ⟨rfl, fw_rel hq hp hr⟩ (q + 1) 0 10 (by omega) (by omega)
end
section
/-! irreducible, factors, factor, multiplicity, greatest, squareFree, radical -/
theorem i_vc_irreducible {k : Nat} {u : SX} {v : SY} (I : i_Rel k u v) (hk : k + 4 ≤ 2049) (v1 : Int32) : wpX_irreducible (fun r => wpY_irreducible (fun r' v' => r' = r ∧ i_Rel (k + 4) u v') v v1) u v1 := by
  obtain ⟨q, pw, rg, rm, fo, fa, og, hq, rfl, rfl, hp, hr⟩ := I
  unfold wpX_irreducible wpY_irreducible
  dsimp only
  rcases fw_ix v1 with hb | ⟨j, hj, rfl⟩
  · exact xreg0 hb (br_t rfl (ybad1 hb (br_f (by decide) ⟨rfl, fw_rel hq hp hr⟩)))
  · have hin : vp_in (nI j) 3 := vp_in_nI hj (by omega)
    obtain ⟨x, hx, e⟩ := fw_rg hr hj
    refine xreg1 hj (br_f (by decide) ⟨hin, ?_⟩)
    rw [e]
    refine xw_irr hq hp hx (fun a b => br_f (by decide) (ybad0 hj (br_t rfl ⟨hin, ?_⟩))) (fun a => br_t rfl (ybad0 hj (br_t rfl ⟨hin, ?_⟩)))
    · exact yw_irr hq hx (fun _ _ _ _ _ _ => br_f (by decide) ⟨rfl, fw_rel hq hp hr⟩) (fun c => absurd ⟨a, b⟩ c)
    · exact yw_irr hq hx (fun b c => absurd ⟨b, c⟩ a) (fun _ _ _ _ _ => br_t rfl ⟨rfl, fw_rel hq hp hr⟩)
/-- what Y holds when it is ready -/
def fw_T (q x : Nat) (fa og : Nat → Int32) : Prop := ∀ t, t < fd_ct q 8 x → fa t = nI (fd_lf q (fd_it q t x)) ∧ og t = nI (fd_mu q (fd_lf q (fd_it q t x)) 8 (fd_it q t x))
section
variable {q j : Nat} {en rm fo : Int32} {rg fa og : Nat → Int32} {post : Int32 → SY → Prop}
theorem yready1 {a : Int32} (ha : a < 0 ∨ nI 3 ≤ a) (h : post (-1) (nI (q + 1), en, rm, fo, rg, fa, og)) : wpY_ready post (nI (q + 1), en, rm, fo, rg, fa, og) a := by
  unfold wpY_ready
  exact ybad1 ha (br_f (by decide) h)
theorem yready2 (hj : j < 3) (e : rg (nI j).toNatClampNeg = 0) (h : post (-2) (nI (q + 1), en, rm, fo, rg, fa, og)) : wpY_ready post (nI (q + 1), en, rm, fo, rg, fa, og) (nI j) := by
  unfold wpY_ready
  exact ybad0 hj (br_t rfl ⟨vp_in_nI hj (by omega), br_t e h⟩)
theorem yready0 {x : Nat} (hq : q = 1 ∨ q = 2 ∨ q = 4) (hj : j < 3) (x0 : 0 < x) (hx : x < (q + 1) ^ 9) (e : rg (nI j).toNatClampNeg = nI x) (h : ∀ rm' fa' og', fw_T q x fa' og' → post 0 (nI (q + 1), en, rm', nI (fd_ct q 8 x), rg, fa', og')) : wpY_ready post (nI (q + 1), en, rm, fo, rg, fa, og) (nI j) := by
  have hin : vp_in (nI j) 3 := vp_in_nI hj (by omega)
  unfold wpY_ready
  refine ybad0 hj (br_t rfl ⟨hin, br_f (by rw [e]; exact nI_ne0 x0 (fw_b hq hx)) ⟨hin, ?_⟩⟩)
  rw [e]
  exact yw_split hq x0 hx (fun rm' fa' og' g => h rm' fa' og' g)
theorem fw_ct8 {x : Nat} (hq : q = 1 ∨ q = 2 ∨ q = 4) (x0 : 0 < x) (hx : x < (q + 1) ^ 9) : fd_ct q 8 x ≤ 8 := by
  have := (fd_ctS hq 8 x x0 hx (fd_dg8 hx)).1
  have := fd_dg8 hx
  omega
theorem fw_itF {x t : Nat} (hq : q = 1 ∨ q = 2 ∨ q = 4) (x0 : 0 < x) (hx : x < (q + 1) ^ 9) (ht : t < fd_ct q 8 x) : fd_F q (fd_it q t x) (fd_lf q (fd_it q t x)) ∧ 1 ≤ fd_dg q (fd_it q t x) := by
  have d1 := ((fd_ctS hq 8 x x0 hx (fd_dg8 hx)).2 t).mpr ht
  exact ⟨fd_lfF hq (fd_itb hq t x x0 hx).2 d1, d1⟩
theorem fw_it0 {x t : Nat} (hq : q = 1 ∨ q = 2 ∨ q = 4) (x0 : 0 < x) (hx : x < (q + 1) ^ 9) (ht : fd_ct q 8 x ≤ t) : fd_dg q (fd_it q t x) = 0 := by
  have d1 := (fd_ctS hq 8 x x0 hx (fd_dg8 hx)).2 t
  omega
end
/-- the three ways that these methods begin -/
theorem i_vc_factors {k : Nat} {u : SX} {v : SY} (I : i_Rel k u v) (hk : k + 4 ≤ 2049) (v1 : Int32) : wpX_factors (fun r => wpY_factors (fun r' v' => r' = r ∧ i_Rel (k + 4) u v') v v1) u v1 := by
  obtain ⟨q, pw, rg, rm, fo, fa, og, hq, rfl, rfl, hp, hr⟩ := I
  unfold wpX_factors wpY_factors
  dsimp only
  rcases fw_ix v1 with hb | ⟨j, hj, rfl⟩
  · exact xreg0 hb (br_t rfl (yready1 hb (br_f (by decide) ⟨rfl, fw_rel hq hp hr⟩)))
  · have hin : vp_in (nI j) 3 := vp_in_nI hj (by omega)
    obtain ⟨x, hx, e⟩ := fw_rg hr hj
    refine xreg1 hj (br_f (by decide) ⟨hin, ?_⟩)
    by_cases z : rg (nI j).toNatClampNeg = 0
    · exact br_t z (yready2 hj z (br_f (by decide) ⟨rfl, fw_rel hq hp hr⟩))
    · have x0 : 0 < x := by
        rcases Nat.eq_zero_or_pos x with w | w
        · rw [e, w] at z
          exact absurd rfl z
        · exact w
      refine br_f z ⟨hin, ?_⟩
      rw [e]
      refine xw_n hq hp x0 hx (yready0 hq hj x0 hx e (fun rm' fa' og' T => br_t (by decide) ⟨rfl, fw_rel hq hp hr⟩))
theorem i_vc_factor {k : Nat} {u : SX} {v : SY} (I : i_Rel k u v) (hk : k + 4 ≤ 2049) (v1 : Int32) (v2 : Int32) : wpX_factor (fun r => wpY_factor (fun r' v' => r' = r ∧ i_Rel (k + 4) u v') v v1 v2) u v1 v2 := by
  obtain ⟨q, pw, rg, rm, fo, fa, og, hq, rfl, rfl, hp, hr⟩ := I
  unfold wpX_factor wpY_factor
  dsimp only
  rcases fw_ix v1 with hb | ⟨j, hj, rfl⟩
  · exact xreg0 hb (br_t rfl (yready1 hb (br_f (by decide) ⟨rfl, fw_rel hq hp hr⟩)))
  · have hin : vp_in (nI j) 3 := vp_in_nI hj (by omega)
    obtain ⟨x, hx, e⟩ := fw_rg hr hj
    refine xreg1 hj (br_f (by decide) ⟨hin, ?_⟩)
    by_cases z : rg (nI j).toNatClampNeg = 0
    · exact br_t z (yready2 hj z (br_f (by decide) ⟨rfl, fw_rel hq hp hr⟩))
    · have x0 : 0 < x := by
        rcases Nat.eq_zero_or_pos x with w | w
        · rw [e, w] at z
          exact absurd rfl z
        · exact w
      have c8 := fw_ct8 hq x0 hx
      refine br_f z ⟨hin, ?_⟩
      rw [e]
      by_cases n0 : v2 < 0
      · exact xw_f0 (Or.inl n0) (br_t rfl (yready0 hq hj x0 hx e (fun rm' fa' og' T => br_t (by decide) (br_t n0 ⟨rfl, fw_rel hq hp hr⟩))))
      · obtain ⟨i, hi, rfl⟩ := nI_of n0
        rcases Nat.lt_or_ge i 8 with i8 | i8
        · refine xw_f hq hp i8 x0 hx ?_
          rcases Nat.lt_or_ge i (fd_ct q 8 x) with w | w
          · obtain ⟨F, d1⟩ := fw_itF hq x0 hx w
            obtain ⟨m0, m9, _⟩ := fd_M0 hq F.1
            refine br_f (nI_ne0 m0 (fw_b hq m9)) (yready0 hq hj x0 hx e (fun rm' fa' og' T => br_t (by decide) (br_f n0 (br_t (nI_lt w (by omega)) ⟨vp_in_nI i8 (by omega), ?_, fw_rel hq hp hr⟩))))
            rw [nI_clamp hi]
            exact (T i w).1
          · rw [fd_lf0 (fw_it0 hq x0 hx w)]
            exact br_t rfl (yready0 hq hj x0 hx e (fun rm' fa' og' T => br_t (by decide) (br_f n0 (br_f (nI_nlt w hi) ⟨rfl, fw_rel hq hp hr⟩))))
        · exact xw_f0 (Or.inr (nI_le (a := 8) i8 hi)) (br_t rfl (yready0 hq hj x0 hx e (fun rm' fa' og' T => br_t (by decide) (br_f n0 (br_f (nI_nlt (by omega) hi) ⟨rfl, fw_rel hq hp hr⟩)))))
theorem i_vc_multiplicity {k : Nat} {u : SX} {v : SY} (I : i_Rel k u v) (hk : k + 4 ≤ 2049) (v1 : Int32) (v2 : Int32) : wpX_multiplicity (fun r => wpY_multiplicity (fun r' v' => r' = r ∧ i_Rel (k + 4) u v') v v1 v2) u v1 v2 := by
  obtain ⟨q, pw, rg, rm, fo, fa, og, hq, rfl, rfl, hp, hr⟩ := I
  unfold wpX_multiplicity wpY_multiplicity
  dsimp only
  rcases fw_ix v1 with hb | ⟨j, hj, rfl⟩
  · exact xreg0 hb (br_t rfl (yready1 hb (br_f (by decide) ⟨rfl, fw_rel hq hp hr⟩)))
  · have hin : vp_in (nI j) 3 := vp_in_nI hj (by omega)
    obtain ⟨x, hx, e⟩ := fw_rg hr hj
    refine xreg1 hj (br_f (by decide) ⟨hin, ?_⟩)
    by_cases z : rg (nI j).toNatClampNeg = 0
    · exact br_t z (yready2 hj z (br_f (by decide) ⟨rfl, fw_rel hq hp hr⟩))
    · have x0 : 0 < x := by
        rcases Nat.eq_zero_or_pos x with w | w
        · rw [e, w] at z
          exact absurd rfl z
        · exact w
      have c8 := fw_ct8 hq x0 hx
      refine br_f z ⟨hin, ?_⟩
      rw [e]
      by_cases n0 : v2 < 0
      · exact xw_f0 (Or.inl n0) (br_t rfl (yready0 hq hj x0 hx e (fun rm' fa' og' T => br_t (by decide) (br_t n0 ⟨rfl, fw_rel hq hp hr⟩))))
      · obtain ⟨i, hi, rfl⟩ := nI_of n0
        rcases Nat.lt_or_ge i 8 with i8 | i8
        · refine xw_f hq hp i8 x0 hx ?_
          rcases Nat.lt_or_ge i (fd_ct q 8 x) with w | w
          · obtain ⟨F, d1⟩ := fw_itF hq x0 hx w
            obtain ⟨m0, m9, _⟩ := fd_M0 hq F.1
            refine br_f (nI_ne0 m0 (fw_b hq m9)) ⟨hin, xw_mu hq hp F.1 hx (yready0 hq hj x0 hx e (fun rm' fa' og' T => br_t (by decide) (br_f n0 (br_t (nI_lt w (by omega)) ⟨vp_in_nI i8 (by omega), ?_, fw_rel hq hp hr⟩))))⟩
            show og' (nI i).toNatClampNeg = nI (fd_mu q (fd_lf q (fd_it q i x)) 8 x)
            rw [nI_clamp hi, (T i w).2, fd_mui hq (fd_FI hq (fd_itb hq i x x0 hx).2 F) 8 i x x0 hx F.2.1]
          · rw [fd_lf0 (fw_it0 hq x0 hx w)]
            exact br_t rfl (yready0 hq hj x0 hx e (fun rm' fa' og' T => br_t (by decide) (br_f n0 (br_f (nI_nlt w hi) ⟨rfl, fw_rel hq hp hr⟩))))
        · exact xw_f0 (Or.inr (nI_le (a := 8) i8 hi)) (br_t rfl (yready0 hq hj x0 hx e (fun rm' fa' og' T => br_t (by decide) (br_f n0 (br_f (nI_nlt (by omega) hi) ⟨rfl, fw_rel hq hp hr⟩)))))
/-- the greatest degree of the first i factors -/
noncomputable def fd_gr (q x : Nat) : Nat → Nat
  | 0 => 0
  | i + 1 => fd_dg q (fd_lf q (fd_it q i x))
theorem fd_grm {q x : Nat} (hq : q = 1 ∨ q = 2 ∨ q = 4) (x0 : 0 < x) (hx : x < (q + 1) ^ 9) {i : Nat} (hi : i < fd_ct q 8 x) : fd_gr q x i ≤ fd_gr q x (i + 1) ∧ fd_gr q x i ≤ 8 := by
  cases i with
  | zero => exact ⟨Nat.zero_le _, Nat.zero_le _⟩
  | succ i =>
    obtain ⟨F, d1⟩ := fw_itF hq x0 hx (show i < fd_ct q 8 x by omega)
    obtain ⟨G, d2⟩ := fw_itF hq x0 hx hi
    obtain ⟨i0, i9⟩ := fd_itb hq i x x0 hx
    rw [fd_its] at d2 G
    have m := fd_lfm hq i0 i9 d1 d2
    have F9 := (fd_M0 hq F.1).2.1
    have G9 := (fd_M0 hq G.1).2.1
    constructor
    · show fd_dg q (fd_lf q (fd_it q i x)) ≤ fd_dg q (fd_lf q (fd_it q (i + 1) x))
      rw [fd_its]
      exact fd_dmono F9 G9 m
    · exact fd_dg8 F9
theorem yw_gr {q x : Nat} {post : Int32 → SY → Prop} {en rm : Int32} {rg fa og : Nat → Int32} (hq : q = 1 ∨ q = 2 ∨ q = 4) (x0 : 0 < x) (hx : x < (q + 1) ^ 9) (T : fw_T q x fa og) (h : post (nI (fd_gr q x (fd_ct q 8 x))) (nI (q + 1), en, rm, nI (fd_ct q 8 x), rg, fa, og)) : ∀ d i n, i + d = fd_ct q 8 x → d < n → wY_greatest_17 post (nI (q + 1)) en rm (nI (fd_ct q 8 x)) rg fa og n (nI (fd_gr q x i)) (nI i) := by
  have c8 := fw_ct8 hq x0 hx
  intro d
  induction d with
  | zero =>
    intro i n hi hn
    obtain ⟨n, rfl⟩ : ∃ j, n = j + 1 := ⟨n - 1, by omega⟩
    have e : i = fd_ct q 8 x := by omega
    subst e
    exact br_t (nI_le (Nat.le_refl _) (by omega)) h
  | succ d ih =>
    intro i n hi hn
    obtain ⟨n, rfl⟩ : ∃ j, n = j + 1 := ⟨n - 1, by omega⟩
    have ic : i < fd_ct q 8 x := by omega
    obtain ⟨F, d1⟩ := fw_itF hq x0 hx ic
    obtain ⟨m0, m9, _⟩ := fd_M0 hq F.1
    have m8 := fd_dg8 m9
    obtain ⟨g1, g2⟩ := fd_grm hq x0 hx ic
    have K := ih (i + 1) n (by omega) (by omega)
    refine br_f (nI_ge (by omega) (by omega)) ⟨vp_in_nI (by omega) (by omega), ?_⟩
    rw [nI_clamp (by omega), (T i ic).1]
    refine yw_degp hq m0 m9 (pk_le (fd_dg q (fd_lf q (fd_it q i x))) (fd_gr q x i) (fun z => nm_r (nI_1 i) ?_) (fun z => nm_r (nI_1 i) K) rfl rfl (by omega) (by omega))
    have e : fd_gr q x i = fd_gr q x (i + 1) := Nat.le_antisymm g1 z
    rw [e]
    exact K
theorem i_vc_greatest {k : Nat} {u : SX} {v : SY} (I : i_Rel k u v) (hk : k + 4 ≤ 2049) (v1 : Int32) : wpX_greatest (fun r => wpY_greatest (fun r' v' => r' = r ∧ i_Rel (k + 4) u v') v v1) u v1 := by
  obtain ⟨q, pw, rg, rm, fo, fa, og, hq, rfl, rfl, hp, hr⟩ := I
  unfold wpX_greatest wpY_greatest
  dsimp only
  rcases fw_ix v1 with hb | ⟨j, hj, rfl⟩
  · exact xreg0 hb (br_t rfl (yready1 hb (br_f (by decide) ⟨rfl, fw_rel hq hp hr⟩)))
  · have hin : vp_in (nI j) 3 := vp_in_nI hj (by omega)
    obtain ⟨x, hx, e⟩ := fw_rg hr hj
    refine xreg1 hj (br_f (by decide) ⟨hin, ?_⟩)
    by_cases z : rg (nI j).toNatClampNeg = 0
    · exact br_t z (yready2 hj z (br_f (by decide) ⟨rfl, fw_rel hq hp hr⟩))
    · have x0 : 0 < x := by
        rcases Nat.eq_zero_or_pos x with w | w
        · rw [e, w] at z
          exact absurd rfl z
        · exact w
      have c8 := fw_ct8 hq x0 hx
      refine br_f z ⟨hin, ?_⟩
      rw [e]
      have Y : ∀ r : Int32, r = nI (fd_gr q x (fd_ct q 8 x)) → wpY_ready (fun r_1 u => match u with
          | (f_p_2, f_end_3, f_remainder_4, f_found_5, a_register_6, a_factor_7, a_often_8) => (((0 ≤ r_1 → (∃ n17 : Nat, wY_greatest_17 (fun r' v' => r' = r ∧ i_Rel (k + 4) (nI (q + 1), pw, rg) v') f_p_2 f_end_3 f_remainder_4 f_found_5 a_register_6 a_factor_7 a_often_8 n17 0 0)) ∧ (¬ 0 ≤ r_1 → (r_1 = r ∧ i_Rel (k + 4) (nI (q + 1), pw, rg) (f_p_2, f_end_3, f_remainder_4, f_found_5, a_register_6, a_factor_7, a_often_8)))))) (nI (q + 1), nI ((q + 1) ^ 9), rm, fo, rg, fa, og) (nI j) := by
        intro r er
        refine yready0 hq hj x0 hx e (fun rm' fa' og' T => br_t (by decide) ⟨10, ?_⟩)
        exact yw_gr hq x0 hx T ⟨er.symm, fw_rel hq hp hr⟩ (fd_ct q 8 x) 0 10 (by omega) (by omega)
      refine xw_n hq hp x0 hx (pk_eq (fd_ct q 8 x) 0 (fun w => ?_) (fun w => ⟨hin, ?_⟩) rfl rfl (by omega) (by omega))
      · exact Y 0 (by rw [w]; rfl)
      · have e1 : nI (fd_ct q 8 x) - 1 = nI (fd_ct q 8 x - 1) := pk_sub (b := 1) (by omega)
        rw [e1]
        obtain ⟨F, d1⟩ := fw_itF hq x0 hx (show fd_ct q 8 x - 1 < fd_ct q 8 x by omega)
        obtain ⟨m0, m9, _⟩ := fd_M0 hq F.1
        refine xw_f hq hp (by omega) x0 hx (xw_degp hq hp m0 m9 (Y _ ?_))
        have e2 : fd_ct q 8 x = (fd_ct q 8 x - 1) + 1 := by omega
        have e3 : fd_gr q x (fd_ct q 8 x) = fd_gr q x ((fd_ct q 8 x - 1) + 1) := congrArg _ e2
        rw [e3]
        rfl
theorem yw_sf {q x : Nat} {post : Int32 → SY → Prop} {en rm : Int32} {rg fa og : Nat → Int32} (hq : q = 1 ∨ q = 2 ∨ q = 4) (x0 : 0 < x) (hx : x < (q + 1) ^ 9) (T : fw_T q x fa og) (h1 : (∀ i, i < fd_ct q 8 x → fd_mu q (fd_lf q (fd_it q i x)) 8 (fd_it q i x) = 1) → post 1 (nI (q + 1), en, rm, nI (fd_ct q 8 x), rg, fa, og)) (h0 : ¬ (∀ i, i < fd_ct q 8 x → fd_mu q (fd_lf q (fd_it q i x)) 8 (fd_it q i x) = 1) → post 0 (nI (q + 1), en, rm, nI (fd_ct q 8 x), rg, fa, og)) : ∀ d i n, i + d = fd_ct q 8 x → d < n → (∀ t, t < i → fd_mu q (fd_lf q (fd_it q t x)) 8 (fd_it q t x) = 1) → wY_squareFree_14 post (nI (q + 1)) en rm (nI (fd_ct q 8 x)) rg fa og n (nI i) := by
  have c8 := fw_ct8 hq x0 hx
  intro d
  induction d with
  | zero =>
    intro i n hi hn ha
    obtain ⟨n, rfl⟩ : ∃ j, n = j + 1 := ⟨n - 1, by omega⟩
    have e : i = fd_ct q 8 x := by omega
    subst e
    exact br_t (nI_le (Nat.le_refl _) (by omega)) (h1 ha)
  | succ d ih =>
    intro i n hi hn ha
    obtain ⟨n, rfl⟩ : ∃ j, n = j + 1 := ⟨n - 1, by omega⟩
    have ic : i < fd_ct q 8 x := by omega
    obtain ⟨F, d1⟩ := fw_itF hq x0 hx ic
    obtain ⟨i0, i9⟩ := fd_itb hq i x x0 hx
    have s := fd_nxS hq i0 i9 d1
    have m1 := (fd_M0 hq F.1).2.2.1
    have m8 : fd_mu q (fd_lf q (fd_it q i x)) 8 (fd_it q i x) ≤ 8 := by
      have a := s.2.2.2.1
      have b := fd_dg8 i9
      have : fd_mu q (fd_lf q (fd_it q i x)) 8 (fd_it q i x) ≤ fd_mu q (fd_lf q (fd_it q i x)) 8 (fd_it q i x) * fd_dg q (fd_lf q (fd_it q i x)) := Nat.le_mul_of_pos_right _ m1
      omega
    refine br_f (nI_ge (by omega) (by omega)) ⟨vp_in_nI (by omega) (by omega), ?_⟩
    rw [nI_clamp (by omega), (T i ic).2]
    refine pk_le (fd_mu q (fd_lf q (fd_it q i x)) 8 (fd_it q i x)) 1 (fun z => nm_r (nI_1 i) (ih (i + 1) n (by omega) (by omega) (fun t ht => ?_))) (fun z => h0 (fun H => ?_)) rfl rfl (by omega) (by omega)
    · rcases Nat.lt_or_ge t i with w | w
      · exact ha t w
      · have : t = i := by omega
        subst this
        have := s.2.2.2.2.1
        omega
    · have := H i ic
      omega
theorem i_vc_squareFree {k : Nat} {u : SX} {v : SY} (I : i_Rel k u v) (hk : k + 4 ≤ 2049) (v1 : Int32) : wpX_squareFree (fun r => wpY_squareFree (fun r' v' => r' = r ∧ i_Rel (k + 4) u v') v v1) u v1 := by
  obtain ⟨q, pw, rg, rm, fo, fa, og, hq, rfl, rfl, hp, hr⟩ := I
  unfold wpX_squareFree wpY_squareFree
  dsimp only
  rcases fw_ix v1 with hb | ⟨j, hj, rfl⟩
  · exact xreg0 hb (br_t rfl (yready1 hb (br_f (by decide) ⟨rfl, fw_rel hq hp hr⟩)))
  · have hin : vp_in (nI j) 3 := vp_in_nI hj (by omega)
    obtain ⟨x, hx, e⟩ := fw_rg hr hj
    refine xreg1 hj (br_f (by decide) ⟨hin, ?_⟩)
    by_cases z : rg (nI j).toNatClampNeg = 0
    · exact br_t z (yready2 hj z (br_f (by decide) ⟨rfl, fw_rel hq hp hr⟩))
    · have x0 : 0 < x := by
        rcases Nat.eq_zero_or_pos x with w | w
        · rw [e, w] at z
          exact absurd rfl z
        · exact w
      have c8 := fw_ct8 hq x0 hx
      have x8 := fd_dg8 hx
      obtain ⟨a1, a2⟩ := fd_1 hq
      obtain ⟨r0, r9, r1, r2⟩ := fd_rdS hq 8 1 x (by omega) a1 x0 hx (by omega) x8
      rw [a2, Nat.zero_add] at r1 r2
      refine br_f z ⟨hin, ?_⟩
      rw [e]
      refine xw_rd hq hp x0 hx (xw_degp hq hp r0 r9 ⟨hin, xw_degp hq hp x0 hx (pk_eq (fd_dg q (fd_rd q 8 1 x)) (fd_dg q x) (fun w => ?_) (fun w => ?_) rfl rfl (by omega) (by omega))⟩)
      · refine yready0 hq hj x0 hx e (fun rm' fa' og' T => br_t (by decide) ⟨10, ?_⟩)
        exact yw_sf hq x0 hx T (fun _ => ⟨rfl, fw_rel hq hp hr⟩) (fun c => absurd (r2.mp w) c) (fd_ct q 8 x) 0 10 (by omega) (by omega) (fun t ht => absurd ht (by omega))
      · refine yready0 hq hj x0 hx e (fun rm' fa' og' T => br_t (by decide) ⟨10, ?_⟩)
        exact yw_sf hq x0 hx T (fun c => absurd (r2.mpr c) w) (fun _ => ⟨rfl, fw_rel hq hp hr⟩) (fd_ct q 8 x) 0 10 (by omega) (by omega) (fun t ht => absurd ht (by omega))
theorem yw_rd {q j x : Nat} {post : Int32 → SY → Prop} {en rm : Int32} {rg fa og : Nat → Int32} (hq : q = 1 ∨ q = 2 ∨ q = 4) (hj : j < 3) (x0 : 0 < x) (hx : x < (q + 1) ^ 9) (T : fw_T q x fa og) : ∀ d i n a, i + d = fd_ct q 8 x → d < n → 0 < a → a < (q + 1) ^ 9 → fd_dg q a + fd_dg q (fd_it q i x) ≤ 8 → post (nI (fd_rd q (8 - i) a (fd_it q i x))) (nI (q + 1), en, rm, nI (fd_ct q 8 x), upd rg (nI j).toNatClampNeg (nI (fd_rd q (8 - i) a (fd_it q i x))), fa, og) → wY_radical_17 post (nI j) (nI (q + 1)) en rm (nI (fd_ct q 8 x)) rg fa og n (nI a) (nI i) := by
  have c8 := fw_ct8 hq x0 hx
  have hin : vp_in (nI j) 3 := vp_in_nI hj (by omega)
  intro d
  induction d with
  | zero =>
    intro i n a hi hn a0 ha h8 h
    obtain ⟨n, rfl⟩ : ∃ j, n = j + 1 := ⟨n - 1, by omega⟩
    have e : i = fd_ct q 8 x := by omega
    have z := fw_it0 hq x0 hx (show fd_ct q 8 x ≤ i by omega)
    have e2 : fd_rd q (8 - i) a (fd_it q i x) = a := by
      rcases Nat.eq_zero_or_pos (8 - i) with w | w
      · rw [w]
        rfl
      · obtain ⟨m, hm⟩ : ∃ m, 8 - i = m + 1 := ⟨8 - i - 1, by omega⟩
        rw [hm]
        simp only [fd_rd]
        rw [if_neg (by omega)]
    rw [e2] at h
    exact br_t (nI_le (by omega) (by omega)) ⟨hin, nm_e h⟩
  | succ d ih =>
    intro i n a hi hn a0 ha h8 h
    obtain ⟨n, rfl⟩ : ∃ j, n = j + 1 := ⟨n - 1, by omega⟩
    have ic : i < fd_ct q 8 x := by omega
    obtain ⟨F, d1⟩ := fw_itF hq x0 hx ic
    obtain ⟨i0, i9⟩ := fd_itb hq i x x0 hx
    obtain ⟨m0, m9, m1, _⟩ := fd_M0 hq F.1
    obtain ⟨s1, s2, s3, s4, s5, s6, s7⟩ := fd_nxS hq i0 i9 d1
    have w : fd_dg q (fd_lf q (fd_it q i x)) ≤ fd_mu q (fd_lf q (fd_it q i x)) 8 (fd_it q i x) * fd_dg q (fd_lf q (fd_it q i x)) := Nat.le_mul_of_pos_left _ s5
    obtain ⟨p0, pd⟩ := fd_prd hq ha a0 m0 m9 (by omega)
    have e : fd_rd q (8 - i) a (fd_it q i x) = fd_rd q (8 - (i + 1)) (fd_pr q a (fd_lf q (fd_it q i x)) 9) (fd_it q (i + 1) x) := by
      have e1 : 8 - i = (8 - (i + 1)) + 1 := by omega
      rw [e1, fd_its]
      simp only [fd_rd]
      rw [if_pos d1]
    rw [e] at h
    refine br_f (nI_ge (by omega) (by omega)) ⟨vp_in_nI (by omega) (by omega), ?_⟩
    rw [nI_clamp (by omega), (T i ic).1]
    refine yw_p hq ha a0 m0 m9 (by omega) (nm_r (nI_1 i) (ih (i + 1) n _ (by omega) (by omega) p0 (fd_pr9 _ _ 9) ?_ h))
    rw [fd_its]
    omega
theorem i_vc_radical {k : Nat} {u : SX} {v : SY} (I : i_Rel k u v) (hk : k + 4 ≤ 2049) (v1 : Int32) : wpX_radical (fun r u' => wpY_radical (fun r' v' => r' = r ∧ i_Rel (k + 4) u' v') v v1) u v1 := by
  obtain ⟨q, pw, rg, rm, fo, fa, og, hq, rfl, rfl, hp, hr⟩ := I
  unfold wpX_radical wpY_radical
  dsimp only
  rcases fw_ix v1 with hb | ⟨j, hj, rfl⟩
  · exact xreg0 hb (br_t rfl (yready1 hb (br_f (by decide) ⟨rfl, fw_rel hq hp hr⟩)))
  · have hin : vp_in (nI j) 3 := vp_in_nI hj (by omega)
    obtain ⟨x, hx, e⟩ := fw_rg hr hj
    refine xreg1 hj (br_f (by decide) ⟨hin, ?_⟩)
    by_cases z : rg (nI j).toNatClampNeg = 0
    · exact br_t z (yready2 hj z (br_f (by decide) ⟨rfl, fw_rel hq hp hr⟩))
    · have x0 : 0 < x := by
        rcases Nat.eq_zero_or_pos x with w | w
        · rw [e, w] at z
          exact absurd rfl z
        · exact w
      have c8 := fw_ct8 hq x0 hx
      have x8 := fd_dg8 hx
      obtain ⟨a1, a2⟩ := fd_1 hq
      obtain ⟨r0, r9, r1, r2⟩ := fd_rdS hq 8 1 x (by omega) a1 x0 hx (by omega) x8
      have X1 : ∀ {post : Int32 → Prop}, post (nI (fd_rd q 8 1 x)) → wpX_radicalOf post (nI (q + 1), pw, rg) (rg (nI j).toNatClampNeg) := by
        intro post h
        rw [e]
        exact xw_rd hq hp x0 hx h
      refine br_f z ⟨hin, X1 ⟨hin, nm_e ⟨hin, ?_⟩⟩⟩
      refine yready0 hq hj x0 hx e (fun rm' fa' og' T => br_t (by decide) ⟨10, ?_⟩)
      exact yw_rd hq hj x0 hx T (fd_ct q 8 x) 0 10 1 (by omega) (by omega) (by omega) a1 (by show fd_dg q 1 + fd_dg q x ≤ 8; omega) ⟨pk_us.symm, fw_rel hq hp (fw_Ru hr r9)⟩
end
section
/-! irreducibles, nextIrreducible -/
/-- irreducible, as both sides ask it of a code -/
def fd_ir (q x : Nat) : Prop := 1 ≤ fd_dg q x ∧ fd_dg q (fd_lf q x) = fd_dg q x
noncomputable def fd_ic (q lo : Nat) : Nat → Nat
  | 0 => 0
  | k + 1 => fd_ic q lo k + @ite Nat (fd_ir q (lo + k)) (Classical.propDecidable _) 1 0
theorem fd_ic1 {q lo k : Nat} (h : fd_ir q (lo + k)) : fd_ic q lo (k + 1) = fd_ic q lo k + 1 := by
  simp only [fd_ic]
  rw [if_pos h]
theorem fd_ic0 {q lo k : Nat} (h : ¬ fd_ir q (lo + k)) : fd_ic q lo (k + 1) = fd_ic q lo k := by
  simp only [fd_ic]
  rw [if_neg h]
  rfl
theorem xw_ic {q d : Nat} {post : Int32 → Prop} {pw rg : Nat → Int32} (hq : q = 1 ∨ q = 2 ∨ q = 4) (hp : fw_P q pw) (h8 : d ≤ 8) (h : post (nI (fd_ic q ((q + 1) ^ d) ((q + 1) ^ d)))) : ∀ e k n, k + e = (q + 1) ^ d → e < n → wX_irreducibles_21 post (nI d) (nI (q + 1)) pw rg n (nI (fd_ic q ((q + 1) ^ d) k)) (nI ((q + 1) ^ d + k)) := by
  have b9 := fd_b9 hq
  have pd := fd_pm q (show d ≤ 9 by omega)
  have ea := fw_at hp (show d < 10 by omega)
  intro e
  induction e with
  | zero =>
    intro k n hk hn
    obtain ⟨n, rfl⟩ : ∃ j, n = j + 1 := ⟨n - 1, by omega⟩
    have ek : k = (q + 1) ^ d := by omega
    refine ⟨vp_in_nI (by omega) (by omega), br_t (by rw [ea, fw_2]; exact nI_le (by omega) (by omega)) ?_⟩
    rw [ek]
    exact h
  | succ e ih =>
    intro k n hk hn
    obtain ⟨n, rfl⟩ : ∃ j, n = j + 1 := ⟨n - 1, by omega⟩
    have K := ih (k + 1) n (by omega) (by omega)
    have c9 : (q + 1) ^ d + k < (q + 1) ^ 9 := by
      have a := fd_m2 (m := (q + 1) ^ d + k) (e := d) hq (by omega)
      exact Nat.lt_of_lt_of_le a (fd_pm q (by omega))
    refine ⟨vp_in_nI (by omega) (by omega), br_f (by rw [ea, fw_2]; exact nI_ge (by omega) (by omega)) (xw_irr hq hp c9 (fun a b => ?_) (fun a => ?_))⟩
    · rw [fd_ic1 ⟨a, b⟩] at K
      exact br_f (by decide) (nm_r (nI_1 _) (nm_r (nI_1 _) K))
    · rw [fd_ic0 a] at K
      exact br_t rfl (nm_r (nI_1 _) K)
theorem yw_ic {q d : Nat} {post : Int32 → SY → Prop} {en : Int32} {rg : Nat → Int32} (hq : q = 1 ∨ q = 2 ∨ q = 4) (h8 : d ≤ 8) (h : ∀ rm' fo' fa' og', post (nI (fd_ic q ((q + 1) ^ d) ((q + 1) ^ d))) (nI (q + 1), en, rm', fo', rg, fa', og')) : ∀ e k n rm fo fa og, k + e = (q + 1) ^ d → e < n → wY_irreducibles_39 post (nI ((q + 1) ^ d)) n (nI (fd_ic q ((q + 1) ^ d) k)) (nI ((q + 1) ^ d + k)) (nI (q + 1)) en rm fo rg fa og := by
  have b9 := fd_b9 hq
  have pd := fd_pm q (show d ≤ 9 by omega)
  intro e
  induction e with
  | zero =>
    intro k n rm fo fa og hk hn
    obtain ⟨n, rfl⟩ : ∃ j, n = j + 1 := ⟨n - 1, by omega⟩
    have ek : k = (q + 1) ^ d := by omega
    refine br_t (by rw [fw_2]; exact nI_le (by omega) (by omega)) ?_
    rw [ek]
    exact h _ _ _ _
  | succ e ih =>
    intro k n rm fo fa og hk hn
    obtain ⟨n, rfl⟩ : ∃ j, n = j + 1 := ⟨n - 1, by omega⟩
    have K := fun rm fo fa og => ih (k + 1) n rm fo fa og (by omega) (by omega)
    have c9 : (q + 1) ^ d + k < (q + 1) ^ 9 := by
      have a := fd_m2 (m := (q + 1) ^ d + k) (e := d) hq (by omega)
      exact Nat.lt_of_lt_of_le a (fd_pm q (by omega))
    refine br_f (by rw [fw_2]; exact nI_ge (by omega) (by omega)) (yw_irr hq c9 (fun a b rm' fo' fa' og' => ?_) (fun a rm' fo' fa' og' => ?_))
    · have K' := K rm' fo' fa' og'
      rw [fd_ic1 ⟨a, b⟩] at K'
      exact br_f (by decide) (nm_r (nI_1 _) (nm_r (nI_1 _) K'))
    · have K' := K rm' fo' fa' og'
      rw [fd_ic0 a] at K'
      exact br_t rfl (nm_r (nI_1 _) K')
theorem yw_ic16 {q d : Nat} {post : Int32 → SY → Prop} {en rm fo : Int32} {rg fa og : Nat → Int32} (hd : d < 10) (h : ∃ n, wY_irreducibles_39 post (nI ((q + 1) ^ d)) n 0 (nI ((q + 1) ^ d)) (nI (q + 1)) en rm fo rg fa og) : ∀ e i n, i + e = d → e < n → wY_irreducibles_16 post (nI d) (nI (q + 1)) en rm fo rg fa og n (nI ((q + 1) ^ i)) (nI i) := by
  intro e
  induction e with
  | zero =>
    intro i n hi hn
    obtain ⟨n, rfl⟩ : ∃ j, n = j + 1 := ⟨n - 1, by omega⟩
    have ei : i = d := by omega
    subst ei
    exact br_t (nI_le (Nat.le_refl _) (by omega)) h
  | succ e ih =>
    intro i n hi hn
    obtain ⟨n, rfl⟩ : ∃ j, n = j + 1 := ⟨n - 1, by omega⟩
    exact br_f (nI_ge (by omega) (by omega)) (nm_r (e' := nI ((q + 1) ^ (i + 1))) (by rw [pk_mul, ← fd_ps]) (nm_r (nI_1 i) (ih (i + 1) n (by omega) (by omega))))
theorem i_vc_irreducibles {k : Nat} {u : SX} {v : SY} (I : i_Rel k u v) (hk : k + 4 ≤ 2049) (v1 : Int32) : wpX_irreducibles (fun r => wpY_irreducibles (fun r' v' => r' = r ∧ i_Rel (k + 4) u v') v v1) u v1 := by
  obtain ⟨q, pw, rg, rm, fo, fa, og, hq, rfl, rfl, hp, hr⟩ := I
  unfold wpX_irreducibles wpY_irreducibles
  dsimp only
  by_cases a : v1 < 1
  · exact br_t a (br_t a ⟨rfl, fw_rel hq hp hr⟩)
  by_cases b : v1 ≤ 4
  · refine br_f a (br_t b ?_)
    have a0 : ¬ v1 < 0 := fun z => a (Int32.lt_trans z (by decide))
    obtain ⟨d, hd, rfl⟩ := nI_of a0
    have d4 : d ≤ 4 := (nI_leI (b := 4) hd (by omega)).mp b
    refine ⟨vp_in_nI (by omega) (by omega), nm_r (fw_at hp (by omega)) ⟨(q + 1) ^ d + 1, ?_⟩⟩
    refine xw_ic hq hp (by omega) ?_ ((q + 1) ^ d) 0 _ (by omega) (by omega)
    refine br_f a (br_t b ⟨d + 1, ?_⟩)
    have K := yw_ic16 (q := q) (d := d) (en := nI ((q + 1) ^ 9)) (rm := rm) (fo := fo) (rg := rg) (fa := fa) (og := og) (post := fun r' v' => r' = nI (fd_ic q ((q + 1) ^ d) ((q + 1) ^ d)) ∧ i_Rel (k + 4) (nI (q + 1), pw, rg) v') (by omega) ⟨(q + 1) ^ d + 1, yw_ic hq (by omega) (fun _ _ _ _ => ⟨rfl, fw_rel hq hp hr⟩) ((q + 1) ^ d) 0 _ rm fo fa og (by omega) (by omega)⟩ d 0 (d + 1) (by omega) (by omega)
    rw [Nat.pow_zero] at K
    exact K
  · exact br_f a (br_f b (br_f a (br_f b ⟨rfl, fw_rel hq hp hr⟩)))
/-- m is the least irreducible code beyond a, or the end -/
def fd_nt (q : Nat) (a : Int32) (m : Nat) : Prop :=
  m ≤ (q + 1) ^ 9 ∧ (m < (q + 1) ^ 9 → fd_M q m ∧ fd_ir q m ∧ a < nI m) ∧ ∀ c, fd_M q c → a < nI c → fd_ir q c → m ≤ c
noncomputable def fd_na (q m : Nat) : Int32 := if m < (q + 1) ^ 9 then nI m else -1
theorem fd_nte {q : Nat} (hq : q = 1 ∨ q = 2 ∨ q = 4) (a : Int32) : ∃ m, fd_nt q a m := by
  rcases Classical.em (∃ c, fd_M q c ∧ a < nI c ∧ fd_ir q c) with h | h
  · obtain ⟨m, h1, h2⟩ := pk_least _ h
    have m9 := (fd_M0 hq h1.1).2.1
    refine ⟨m, by omega, fun _ => ⟨h1.1, h1.2.2, h1.2.1⟩, fun c a1 a2 a3 => ?_⟩
    rcases Nat.lt_or_ge c m with w | w
    · exact absurd ⟨a1, a2, a3⟩ (h2 c w)
    · exact w
  · refine ⟨(q + 1) ^ 9, Nat.le_refl _, fun z => absurd z (by omega), fun c a1 a2 a3 => absurd ⟨c, a1, a2, a3⟩ h⟩
theorem fd_nts {q m d : Nat} {a : Int32} (hq : q = 1 ∨ q = 2 ∨ q = 4) (hm : fd_nt q a m) (h8 : d ≤ 8) (h : 2 * (q + 1) ^ d ≤ m) : (q + 1) ^ (d + 1) ≤ m := by
  rcases Nat.lt_or_ge m ((q + 1) ^ 9) with z | z
  · obtain ⟨_, _, _, _, _, c6, c7⟩ := fd_M0 hq (hm.2.1 z).1
    rcases Nat.lt_or_ge d (fd_dg q m) with w | w
    · exact Nat.le_trans (fd_pm q w) c6
    · have := fd_pm q w
      omega
  · exact Nat.le_trans (fd_pm q (by omega)) z
theorem xw_ni45 {q d m : Nat} {a : Int32} {post J : Int32 → Prop} {pw rg : Nat → Int32} (hq : q = 1 ∨ q = 2 ∨ q = 4) (hp : fw_P q pw) (h1 : 1 ≤ d) (h8 : d ≤ 8) (hm : fd_nt q a m) (h : post (fd_na q m)) (hJ : (q + 1) ^ (d + 1) ≤ m → J (nI (d + 1))) : ∀ n c, 2 * (q + 1) ^ d < n + c → (q + 1) ^ d ≤ c → c ≤ 2 * (q + 1) ^ d → a < nI c → c ≤ m → wX_nextIrreducible_45 post J a (nI d) (nI (2 * (q + 1) ^ d - 1)) (nI (q + 1)) pw rg n (nI c) := by
  have b9 := fd_b9 hq
  have pd := fd_pm q (show d ≤ 9 by omega)
  have pp := fd_pp q d
  intro n
  induction n with
  | zero => intro c hn _ hc; omega
  | succ n ih =>
    intro c hn hlo hhi hac hcm
    refine br_f (Int32.not_le.mpr hac) (pk_lt (2 * (q + 1) ^ d - 1) c (fun z => nm_r (nI_1 d) (hJ (fd_nts hq hm h8 (by omega)))) (fun z => ?_) rfl rfl (by omega) (by omega))
    have cM : fd_M q c := ⟨d, h1, h8, hlo, by omega⟩
    have c9 := (fd_M0 hq cM).2.1
    refine xw_irr hq hp c9 (fun x y => br_f (by decide) ?_) (fun x => br_t rfl (nm_r (nI_1 c) (ih (c + 1) (by omega) (by omega) (by omega) (Int32.lt_trans hac (nI_lt (by omega) (by omega))) ?_)))
    · have e : m = c := Nat.le_antisymm (hm.2.2 c cM hac ⟨x, y⟩) hcm
      unfold fd_na at h
      rw [e, if_pos c9] at h
      exact h
    · rcases Nat.lt_or_ge c m with w | w
      · exact w
      · have e : m = c := by omega
        have k := hm.2.1 (by omega)
        rw [e] at k
        exact absurd k.2.1 x
theorem xw_ni2 {q m : Nat} {a : Int32} {post : Int32 → Prop} {pw rg : Nat → Int32} (hq : q = 1 ∨ q = 2 ∨ q = 4) (hp : fw_P q pw) (hm : fd_nt q a m) (h : post (fd_na q m)) : ∀ k d n, d + k = 9 → k < n → 1 ≤ d → (q + 1) ^ d ≤ m → wX_nextIrreducible_2 post a (nI (q + 1)) pw rg n (nI d) := by
  have b9 := fd_b9 hq
  intro k
  induction k with
  | zero =>
    intro d n hd hn h1 hdm
    obtain ⟨n, rfl⟩ : ∃ j, n = j + 1 := ⟨n - 1, by omega⟩
    have e : d = 9 := by omega
    subst e
    unfold fd_na at h
    rw [if_neg (by omega)] at h
    exact br_t (nI_lt (a := 8) (b := 9) (by omega) (by omega)) h
  | succ k ih =>
    intro d n hd hn h1 hdm
    obtain ⟨n, rfl⟩ : ∃ j, n = j + 1 := ⟨n - 1, by omega⟩
    have pd := fd_pm q (show d ≤ 9 by omega)
    have pp := fd_pp q d
    have ea := fw_at hp (show d < 10 by omega)
    have hin : vp_in (nI d) 10 := vp_in_nI (by omega) (by omega)
    have K := xw_ni45 (post := post) (rg := rg) (J := wX_nextIrreducible_2 post a (nI (q + 1)) pw rg n) hq hp h1 (by omega) hm h (fun w => ih (d + 1) n (by omega) (by omega) (by omega) w)
    refine br_f (nI_nlt (a := 8) (by omega) (by omega)) ⟨hin, nm_r ea ⟨hin, nm_r (e' := nI (2 * (q + 1) ^ d - 1)) (by rw [ea, fw_2]; exact pk_sub (b := 1) (by omega)) ?_⟩⟩
    by_cases z : a < nI ((q + 1) ^ d)
    · exact br_t z ⟨_, K ((q + 1) ^ d + 1) ((q + 1) ^ d) (by omega) (Nat.le_refl _) (by omega) z hdm⟩
    · refine br_f z ?_
      by_cases w : nI (2 * (q + 1) ^ d - 1) ≤ a
      · refine br_t w ⟨1, br_t (Int32.not_lt.mp z) (nm_r (nI_1 d) (ih (d + 1) n (by omega) (by omega) (by omega) (fd_nts hq hm (by omega) ?_)))⟩
        rcases Nat.lt_or_ge m ((q + 1) ^ 9) with y | y
        · have k := (hm.2.1 y).2.2
          have k2 := Int32.lt_of_le_of_lt w k
          have := (nI_ltI (by omega) (by omega)).mp k2
          omega
        · have := fd_m2 (m := 2 * (q + 1) ^ d - 1) (e := d) hq (by omega)
          have := fd_pm q (show d + 1 ≤ 9 by omega)
          omega
      · have a0 : ¬ a < 0 := fun y => z (Int32.lt_of_lt_of_le y (nI_pos' (by omega)))
        obtain ⟨c, hc, rfl⟩ := nI_of a0
        have c1 : (q + 1) ^ d ≤ c := by
          rcases Nat.lt_or_ge c ((q + 1) ^ d) with y | y
          · exact absurd (nI_lt y (by omega)) z
          · exact y
        have c2 : c < 2 * (q + 1) ^ d - 1 := by
          rcases Nat.lt_or_ge c (2 * (q + 1) ^ d - 1) with y | y
          · exact y
          · exact absurd (nI_le y hc) w
        refine br_f w (nm_r (nI_1 c) ⟨_, K ((q + 1) ^ d + 1) (c + 1) (by omega) (by omega) (by omega) (nI_lt (by omega) (by omega)) ?_⟩)
        rcases Nat.lt_or_ge m ((q + 1) ^ 9) with y | y
        · have := (nI_ltI hc (by omega)).mp (hm.2.1 y).2.2
          omega
        · have := fd_m2 (m := 2 * (q + 1) ^ d - 1) (e := d) hq (by omega)
          have := fd_pm q (show d + 1 ≤ 9 by omega)
          omega
theorem yw_ni38 {q d m : Nat} {a : Int32} {post : Int32 → SY → Prop} {J : Int32 → Int32 → Int32 → Int32 → Int32 → Int32 → (Nat → Int32) → (Nat → Int32) → (Nat → Int32) → Prop} {en : Int32} {rg : Nat → Int32} (hq : q = 1 ∨ q = 2 ∨ q = 4) (h1 : 1 ≤ d) (h8 : d ≤ 8) (hm : fd_nt q a m) (h : ∀ rm' fo' fa' og', post (fd_na q m) (nI (q + 1), en, rm', fo', rg, fa', og')) (hJ : (q + 1) ^ (d + 1) ≤ m → ∀ rm' fo' fa' og', J (nI ((q + 1) ^ (d + 1))) (nI (d + 1)) (nI (q + 1)) en rm' fo' rg fa' og') : ∀ n c rm fo fa og, 2 * (q + 1) ^ d < n + c → (q + 1) ^ d ≤ c → c ≤ 2 * (q + 1) ^ d → a < nI c → c ≤ m → wY_nextIrreducible_38 post J a (nI ((q + 1) ^ d)) (nI d) n (nI c) (nI (q + 1)) en rm fo rg fa og := by
  have b9 := fd_b9 hq
  have pd := fd_pm q (show d ≤ 9 by omega)
  have pp := fd_pp q d
  intro n
  induction n with
  | zero => intro c rm fo fa og hn _ hc; omega
  | succ n ih =>
    intro c rm fo fa og hn hlo hhi hac hcm
    refine pk_le (2 * (q + 1) ^ d) c (fun z => nm_r (e' := nI ((q + 1) ^ (d + 1))) (by rw [pk_mul, ← fd_ps]) (nm_r (nI_1 d) (hJ (fd_nts hq hm h8 (by omega)) _ _ _ _))) (fun z => ?_) fw_2 rfl (by omega) (by omega)
    have cM : fd_M q c := ⟨d, h1, h8, hlo, by omega⟩
    have c9 := (fd_M0 hq cM).2.1
    refine yw_irr hq c9 (fun x y rm' fo' fa' og' => br_f (by decide) ?_) (fun x rm' fo' fa' og' => br_t rfl (nm_r (nI_1 c) (ih (c + 1) rm' fo' fa' og' (by omega) (by omega) (by omega) (Int32.lt_trans hac (nI_lt (by omega) (by omega))) ?_)))
    · have e : m = c := Nat.le_antisymm (hm.2.2 c cM hac ⟨x, y⟩) hcm
      have h2 := h rm' fo' fa' og'
      unfold fd_na at h2
      rw [e, if_pos c9] at h2
      exact h2
    · rcases Nat.lt_or_ge c m with w | w
      · exact w
      · have e : m = c := by omega
        have k := hm.2.1 (by omega)
        rw [e] at k
        exact absurd k.2.1 x
theorem yw_ni7 {q m : Nat} {a : Int32} {post : Int32 → SY → Prop} {en : Int32} {rg : Nat → Int32} (hq : q = 1 ∨ q = 2 ∨ q = 4) (hm : fd_nt q a m) (h : ∀ rm' fo' fa' og', post (fd_na q m) (nI (q + 1), en, rm', fo', rg, fa', og')) : ∀ k d n rm fo fa og, d + k = 9 → k < n → 1 ≤ d → (q + 1) ^ d ≤ m → wY_nextIrreducible_7 post a n (nI ((q + 1) ^ d)) (nI d) (nI (q + 1)) en rm fo rg fa og := by
  have b9 := fd_b9 hq
  intro k
  induction k with
  | zero =>
    intro d n rm fo fa og hd hn h1 hdm
    obtain ⟨n, rfl⟩ : ∃ j, n = j + 1 := ⟨n - 1, by omega⟩
    have e : d = 9 := by omega
    subst e
    have h2 := h rm fo fa og
    unfold fd_na at h2
    rw [if_neg (by omega)] at h2
    exact br_t (nI_le (a := 9) (b := 9) (by omega) (by omega)) h2
  | succ k ih =>
    intro d n rm fo fa og hd hn h1 hdm
    obtain ⟨n, rfl⟩ : ∃ j, n = j + 1 := ⟨n - 1, by omega⟩
    have pd := fd_pm q (show d ≤ 9 by omega)
    have pp := fd_pp q d
    have K := yw_ni38 (post := post) (en := en) (rg := rg) (J := wY_nextIrreducible_7 post a n) hq h1 (by omega) hm h (fun w rm' fo' fa' og' => ih (d + 1) n rm' fo' fa' og' (by omega) (by omega) (by omega) w)
    refine br_f (nI_ge (b := 9) (by omega) (by omega)) ?_
    by_cases z : a < nI ((q + 1) ^ d)
    · refine br_t z ?_
      unfold wY_nextIrreducible_25
      refine br_f (fun w => ?_) ⟨_, K ((q + 1) ^ d + 1) ((q + 1) ^ d) rm fo fa og (by omega) (Nat.le_refl _) (by omega) z hdm⟩
      rw [fw_2] at w
      have := (nI_ltI (by omega) (by omega)).mp (Int32.lt_of_le_of_lt w z)
      omega
    · have a0 : ¬ a < 0 := fun y => z (Int32.lt_of_lt_of_le y (nI_pos' (by omega)))
      obtain ⟨c, hc, rfl⟩ := nI_of a0
      have c1 : (q + 1) ^ d ≤ c := by
        rcases Nat.lt_or_ge c ((q + 1) ^ d) with y | y
        · exact absurd (nI_lt y (by omega)) z
        · exact y
      have cm : c + 1 ≤ m ∨ (q + 1) ^ 9 ≤ m := by
        rcases Nat.lt_or_ge m ((q + 1) ^ 9) with y | y
        · have := (nI_ltI hc (by omega)).mp (hm.2.1 y).2.2
          omega
        · exact Or.inr y
      have d9 := fd_m2 (m := 2 * (q + 1) ^ d - 1) (e := d) hq (by omega)
      have d10 := fd_pm q (show d + 1 ≤ 9 by omega)
      refine br_f z ?_
      unfold wY_nextIrreducible_25
      refine pk_le (2 * (q + 1) ^ d) c (fun w => nm_r (e' := nI ((q + 1) ^ (d + 1))) (by rw [pk_mul, ← fd_ps]) (nm_r (nI_1 d) (ih (d + 1) n rm fo fa og (by omega) (by omega) (by omega) (fd_nts hq hm (by omega) (by omega))))) (fun w => ?_) fw_2 rfl (by omega) hc
      rw [nI_1]
      exact ⟨_, K ((q + 1) ^ d + 1) (c + 1) rm fo fa og (by omega) (by omega) (by omega) (nI_lt (by omega) (by omega)) (by omega)⟩
theorem i_vc_nextIrreducible {k : Nat} {u : SX} {v : SY} (I : i_Rel k u v) (hk : k + 4 ≤ 2049) (v1 : Int32) : wpX_nextIrreducible (fun r => wpY_nextIrreducible (fun r' v' => r' = r ∧ i_Rel (k + 4) u v') v v1) u v1 := by
  obtain ⟨q, pw, rg, rm, fo, fa, og, hq, rfl, rfl, hp, hr⟩ := I
  obtain ⟨m, hm⟩ := fd_nte hq v1
  have lo : (q + 1) ^ 1 ≤ m := by
    rcases Nat.lt_or_ge m ((q + 1) ^ 9) with y | y
    · obtain ⟨_, _, c1, _, _, c6, _⟩ := fd_M0 hq (hm.2.1 y).1
      exact Nat.le_trans (fd_pm q c1) c6
    · exact Nat.le_trans (fd_pm q (by omega)) y
  unfold wpX_nextIrreducible wpY_nextIrreducible
  dsimp only
  refine ⟨9, xw_ni2 hq hp hm ?_ 8 1 9 (by omega) (by omega) (by omega) lo⟩
  have K := yw_ni7 (post := fun r' v' => r' = fd_na q m ∧ i_Rel (k + 4) (nI (q + 1), pw, rg) v') (en := nI ((q + 1) ^ 9)) (rg := rg) hq hm (fun _ _ _ _ => ⟨rfl, fw_rel hq hp hr⟩) 8 1 9 rm fo fa og (by omega) (by omega) (by omega) lo
  rw [Nat.pow_one] at K
  exact ⟨9, K⟩
end
