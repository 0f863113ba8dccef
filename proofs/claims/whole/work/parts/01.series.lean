/-! series over a commutative ring: products, degrees, cancelling -/
def fs_cv {K : Type} [Lean.Grind.CommRing K] : Nat → (Nat → K) → (Nat → K) → K
  | 0, f, g => f 0 * g 0
  | n + 1, f, g => f 0 * g (n + 1) + fs_cv n (fun i => f (i + 1)) g
theorem fs_addl {K : Type} [Lean.Grind.CommRing K] (g : Nat → K) : ∀ (n : Nat) (f f' : Nat → K), fs_cv n (fun i => f i + f' i) g = fs_cv n f g + fs_cv n f' g := by
  intro n
  induction n with
  | zero => intro f f'; simp only [fs_cv]; grind
  | succ n ih =>
    intro f f'
    simp only [fs_cv]
    rw [ih (fun i => f (i + 1)) (fun i => f' (i + 1))]
    grind
theorem fs_mull {K : Type} [Lean.Grind.CommRing K] (c : K) (g : Nat → K) : ∀ (n : Nat) (f : Nat → K), fs_cv n (fun i => c * f i) g = c * fs_cv n f g := by
  intro n
  induction n with
  | zero => intro f; simp only [fs_cv]; grind
  | succ n ih =>
    intro f
    simp only [fs_cv]
    rw [ih (fun i => f (i + 1))]
    grind
theorem fs_zl {K : Type} [Lean.Grind.CommRing K] (g : Nat → K) : ∀ (n : Nat) (f : Nat → K), (∀ i, f i = 0) → fs_cv n f g = 0 := by
  intro n
  induction n with
  | zero => intro f h; simp only [fs_cv]; rw [h 0]; grind
  | succ n ih =>
    intro f h
    simp only [fs_cv]
    rw [ih (fun i => f (i + 1)) (fun i => h (i + 1)), h 0]
    grind
theorem fs_sym {K : Type} [Lean.Grind.CommRing K] (g : Nat → K) : ∀ (n : Nat) (f : Nat → K), fs_cv (n + 1) f g = fs_cv n f (fun i => g (i + 1)) + f (n + 1) * g 0 := by
  intro n
  induction n with
  | zero => intro f; simp only [fs_cv]
  | succ n ih =>
    intro f
    have e1 : fs_cv (n + 1 + 1) f g = f 0 * g (n + 1 + 1) + fs_cv (n + 1) (fun i => f (i + 1)) g := rfl
    have e2 : fs_cv (n + 1) f (fun i => g (i + 1)) = f 0 * g (n + 1 + 1) + fs_cv n (fun i => f (i + 1)) (fun i => g (i + 1)) := rfl
    rw [e1, e2, ih (fun i => f (i + 1))]
    grind
theorem fs_comm {K : Type} [Lean.Grind.CommRing K] : ∀ (n : Nat) (f g : Nat → K), fs_cv n f g = fs_cv n g f := by
  intro n
  induction n with
  | zero => intro f g; simp only [fs_cv]; grind
  | succ n ih =>
    intro f g
    have e1 : fs_cv (n + 1) f g = f 0 * g (n + 1) + fs_cv n (fun i => f (i + 1)) g := rfl
    rw [e1, fs_sym f n g, ih (fun i => f (i + 1)) g]
    grind
theorem fs_assoc {K : Type} [Lean.Grind.CommRing K] (g h : Nat → K) : ∀ (n : Nat) (f : Nat → K), fs_cv n (fun m => fs_cv m f g) h = fs_cv n f (fun m => fs_cv m g h) := by
  intro n
  induction n with
  | zero => intro f; simp only [fs_cv]; grind
  | succ n ih =>
    intro f
    have e1 : fs_cv (n + 1) (fun m => fs_cv m f g) h = f 0 * g 0 * h (n + 1) + fs_cv n (fun m => f 0 * g (m + 1) + fs_cv m (fun i => f (i + 1)) g) h := rfl
    have e2 : fs_cv (n + 1) f (fun m => fs_cv m g h) = f 0 * (g 0 * h (n + 1) + fs_cv n (fun i => g (i + 1)) h) + fs_cv n (fun i => f (i + 1)) (fun m => fs_cv m g h) := rfl
    rw [e1, e2, fs_addl h n (fun m => f 0 * g (m + 1)) (fun m => fs_cv m (fun i => f (i + 1)) g), fs_mull (f 0) h n (fun m => g (m + 1)), ih (fun i => f (i + 1))]
    grind
/-- the product -/
def fs_m {K : Type} [Lean.Grind.CommRing K] (f g : Nat → K) : Nat → K := fun n => fs_cv n f g
theorem fs_mc {K : Type} [Lean.Grind.CommRing K] (f g : Nat → K) : fs_m f g = fs_m g f := funext fun n => fs_comm n f g
theorem fs_ma {K : Type} [Lean.Grind.CommRing K] (f g h : Nat → K) : fs_m (fs_m f g) h = fs_m f (fs_m g h) := funext fun n => fs_assoc g h n f
theorem fs_mdl {K : Type} [Lean.Grind.CommRing K] (f f' g : Nat → K) : fs_m (fun i => f i + f' i) g = fun i => fs_m f g i + fs_m f' g i := funext fun n => fs_addl g n f f'
theorem fs_mcl {K : Type} [Lean.Grind.CommRing K] (c : K) (f g : Nat → K) : fs_m (fun i => c * f i) g = fun i => c * fs_m f g i := funext fun n => fs_mull c g n f
theorem fs_mcr {K : Type} [Lean.Grind.CommRing K] (c : K) (f g : Nat → K) : fs_m g (fun i => c * f i) = fun i => c * fs_m g f i := by
  rw [fs_mc, fs_mcl, fs_mc f g]
theorem fs_msl {K : Type} [Lean.Grind.CommRing K] (f f' g : Nat → K) : fs_m (fun i => f i - f' i) g = fun i => fs_m f g i - fs_m f' g i := by
  have e : (fun i => f i - f' i) = (fun i => f i + (-1) * f' i) := funext fun i => by grind
  rw [e, fs_mdl f (fun i => (-1) * f' i) g, fs_mcl (-1) f' g]
  funext i
  grind
/-- a single term -/
def fs_t {K : Type} [Lean.Grind.CommRing K] (i : Nat) (c : K) : Nat → K := fun n => if n = i then c else 0
/-- a shift -/
def fs_sh {K : Type} [Lean.Grind.CommRing K] (i : Nat) (f : Nat → K) : Nat → K := fun n => if n < i then 0 else f (n - i)
theorem fs_const {K : Type} [Lean.Grind.CommRing K] (g : Nat → K) (f : Nat → K) (hf : ∀ i, f (i + 1) = 0) : ∀ n, fs_cv n f g = f 0 * g n := by
  intro n
  cases n with
  | zero => rfl
  | succ n =>
    have e1 : fs_cv (n + 1) f g = f 0 * g (n + 1) + fs_cv n (fun i => f (i + 1)) g := rfl
    rw [e1, fs_zl g n (fun i => f (i + 1)) hf]
    grind
theorem fs_cvt {K : Type} [Lean.Grind.CommRing K] (c : K) (g : Nat → K) : ∀ i n, fs_cv n (fs_t i c) g = c * fs_sh i g n := by
  intro i
  induction i with
  | zero =>
    intro n
    rw [fs_const g (fs_t 0 c) (fun i => by simp [fs_t]) n]
    simp [fs_t, fs_sh]
  | succ i ih =>
    intro n
    cases n with
    | zero =>
      have e0 : fs_cv 0 (fs_t (i + 1) c) g = fs_t (i + 1) c 0 * g 0 := rfl
      have e3 : fs_t (i + 1) c 0 = 0 := by simp [fs_t]
      have e4 : fs_sh (i + 1) g 0 = 0 := by simp [fs_sh]
      rw [e0, e3, e4]
      grind
    | succ n =>
      have e1 : fs_cv (n + 1) (fs_t (i + 1) c) g = fs_t (i + 1) c 0 * g (n + 1) + fs_cv n (fun j => fs_t (i + 1) c (j + 1)) g := rfl
      have e2 : (fun j => fs_t (i + 1) c (j + 1)) = fs_t i c := funext fun j => by simp [fs_t]
      have e3 : fs_t (i + 1) c 0 = 0 := by simp [fs_t]
      have e4 : fs_sh (i + 1) g (n + 1) = fs_sh i g n := by simp [fs_sh]
      rw [e1, e2, ih n, e3, e4]
      grind
theorem fs_mt {K : Type} [Lean.Grind.CommRing K] (i : Nat) (c : K) (g : Nat → K) : fs_m (fs_t i c) g = fun n => c * fs_sh i g n := funext fun n => fs_cvt c g i n
theorem fs_deg {K : Type} [Lean.Grind.CommRing K] (g : Nat → K) (e : Nat) (hg : ∀ i, e < i → g i = 0) : ∀ (d : Nat) (f : Nat → K), (∀ i, d < i → f i = 0) → fs_cv (d + e) f g = f d * g e ∧ ∀ n, d + e < n → fs_cv n f g = 0 := by
  intro d
  induction d with
  | zero =>
    intro f hf
    have h := fs_const g f (fun i => hf (i + 1) (by omega))
    refine ⟨by rw [h (0 + e), Nat.zero_add], fun n hn => ?_⟩
    rw [h n, hg n (by omega)]
    grind
  | succ d ih =>
    intro f hf
    obtain ⟨h1, h2⟩ := ih (fun i => f (i + 1)) (fun i hi => hf (i + 1) (by omega))
    constructor
    · have e0 : d + 1 + e = (d + e) + 1 := by omega
      have e1 : fs_cv ((d + e) + 1) f g = f 0 * g (d + e + 1) + fs_cv (d + e) (fun i => f (i + 1)) g := rfl
      rw [e0, e1, h1, hg (d + e + 1) (by omega)]
      grind
    · intro n hn
      cases n with
      | zero => omega
      | succ n =>
        have e1 : fs_cv (n + 1) f g = f 0 * g (n + 1) + fs_cv n (fun i => f (i + 1)) g := rfl
        rw [e1, h2 n (by omega), hg (n + 1) (by omega)]
        grind
/-- from some place on all is 0 -/
def fs_P {K : Type} [Lean.Grind.CommRing K] (f : Nat → K) : Prop := ∃ n, ∀ i, n ≤ i → f i = 0
theorem fs_Pm {K : Type} [Lean.Grind.CommRing K] {f g : Nat → K} (hf : fs_P f) (hg : fs_P g) : fs_P (fs_m f g) := by
  obtain ⟨n, hn⟩ := hf
  obtain ⟨m, hm⟩ := hg
  refine ⟨n + m + 1, fun i hi => ?_⟩
  exact (fs_deg g m (fun i hi => hm i (by omega)) n f (fun i hi => hn i (by omega))).2 i (by omega)
theorem fs_Ps {K : Type} [Lean.Grind.CommRing K] {f g : Nat → K} (hf : fs_P f) (hg : fs_P g) : fs_P (fun i => f i - g i) := by
  obtain ⟨n, hn⟩ := hf
  obtain ⟨m, hm⟩ := hg
  refine ⟨n + m, fun i hi => ?_⟩
  show f i - g i = 0
  rw [hn i (by omega), hm i (by omega)]
  grind
theorem fs_Pc {K : Type} [Lean.Grind.CommRing K] {f : Nat → K} (c : K) (hf : fs_P f) : fs_P (fun i => c * f i) := by
  obtain ⟨n, hn⟩ := hf
  refine ⟨n, fun i hi => ?_⟩
  show c * f i = 0
  rw [hn i hi]
  grind
theorem fs_top {K : Type} [Lean.Grind.CommRing K] (f : Nat → K) : ∀ n, (∀ i, n ≤ i → f i = 0) → (∀ i, f i = 0) ∨ ∃ d, d < n ∧ f d ≠ 0 ∧ ∀ i, d < i → f i = 0 := by
  intro n
  induction n with
  | zero => intro h; exact Or.inl fun i => h i (by omega)
  | succ n ih =>
    intro h
    rcases Classical.em (f n = 0) with z | z
    · rcases ih (fun i hi => if e : i = n then by rw [e]; exact z else h i (by omega)) with r | ⟨d, h1, h2, h3⟩
      · exact Or.inl r
      · exact Or.inr ⟨d, by omega, h2, h3⟩
    · exact Or.inr ⟨n, by omega, z, fun i hi => h i (by omega)⟩
theorem fs_can {K : Type} [Lean.Grind.CommRing K] (nz : ∀ a b : K, a * b = 0 → a = 0 ∨ b = 0) {a m : Nat → K} {d : Nat} (ha : fs_P a) (hd : m d ≠ 0) (hm : ∀ i, d < i → m i = 0) (h : ∀ n, d ≤ n → fs_m a m n = 0) : ∀ i, a i = 0 := by
  obtain ⟨n, hn⟩ := ha
  rcases fs_top a n hn with r | ⟨e, h1, h2, h3⟩
  · exact r
  · exfalso
    have x := (fs_deg m d hm e a h3).1
    have y : fs_cv (e + d) a m = 0 := h (e + d) (by omega)
    rw [y] at x
    rcases nz _ _ x.symm with z | z
    · exact h2 z
    · exact hd z
theorem fs_r1 {K : Type} [Lean.Grind.CommRing K] {R N Y C V : K} (h1 : C + N = 0) (h2 : C = R * V) (h3 : Y * V = 1) : R + N * Y = 0 := by
  have e : N = - (R * V) := by grind
  rw [e]
  grind
theorem fs_r2 {K : Type} [Lean.Grind.CommRing K] {R N Y : K} (h1 : R = 0) (h2 : Y = 0) : R + N * Y = 0 := by
  rw [h1, h2]
  grind
theorem fs_r3 {K : Type} [Lean.Grind.CommRing K] {A R N S C : K} (h : C + N = 0) : A + R = A + C * S + (R + N * S) := by
  have e : N = - C := by grind
  rw [e]
  grind
theorem fs_r4 {K : Type} [Lean.Grind.CommRing K] {A B C : K} (h : A = B + C) : A - B = C := by grind
theorem fs_r5 {K : Type} [Lean.Grind.CommRing K] {A B : K} (h : A - B = 0) : A = B := by grind
theorem fs_r6 {K : Type} [Lean.Grind.CommRing K] {A B : K} (h : A = 0) : B = A + B := by grind
theorem fs_r7 {K : Type} [Lean.Grind.CommRing K] {A B : K} (h : B = 0) : A + B = A := by grind
theorem fs_r8 {K : Type} [Lean.Grind.CommRing K] (A : K) : 0 * A = 0 := by grind
theorem fs_r9 {K : Type} [Lean.Grind.CommRing K] {c c' : K} (A : K) (h : c * c' = 1) : c' * (c * A) = A := by grind
theorem fs_ra {K : Type} [Lean.Grind.CommRing K] (A B C : K) : A * (B * C) = (A * B) * C := by grind
theorem fs_rb {K : Type} [Lean.Grind.CommRing K] {A B : K} (h : A = 0) : A + B = B := by grind
theorem fs_rc {K : Type} [Lean.Grind.CommRing K] (A : K) : 1 * A = A := by grind
theorem fs_rz {K : Type} [Lean.Grind.CommRing K] (c : K) : c * 0 = 0 := by grind
theorem fs_rd {K : Type} [Lean.Grind.CommRing K] {a b : K} (h : a * b = 1) : b * a = 1 := by grind
theorem fs_re {K : Type} [Lean.Grind.CommRing K] {a b : K} (h : 1 = a * b) (hb : b = 1) : a = 1 := by grind
