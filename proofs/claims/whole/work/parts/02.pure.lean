/- the pure pictures: sums, products, powers over naturals below q -/
def ft_Q (q p k h : Nat) : Prop := (q = 64 ∧ p = 2 ∧ k = 6 ∧ h = 32) ∨ (q = 81 ∧ p = 3 ∧ k = 4 ∧ h = 27)
theorem ft_Q_pow {q p k h : Nat} (hQ : ft_Q q p k h) : p ^ k = q := by
  rcases hQ with ⟨rfl, rfl, rfl, rfl⟩ | ⟨rfl, rfl, rfl, rfl⟩ <;> decide
theorem ft_Q_b {q p k h : Nat} (hQ : ft_Q q p k h) : 2 ≤ p ∧ p ≤ 3 ∧ 4 ≤ k ∧ k ≤ 6 ∧ 64 ≤ q ∧ q ≤ 81 ∧ 27 ≤ h ∧ h ≤ 32 ∧ h * p = q := by
  rcases hQ with ⟨rfl, rfl, rfl, rfl⟩ | ⟨rfl, rfl, rfl, rfl⟩ <;> decide
theorem ft_Q_pi {q p k h i : Nat} (hQ : ft_Q q p k h) (hi : i ≤ k) : 1 ≤ p ^ i ∧ p ^ i ≤ q := by
  have hb := ft_Q_b hQ
  refine ⟨Nat.pow_pos (by omega), ?_⟩
  rw [← ft_Q_pow hQ]
  exact Nat.pow_le_pow_right (by omega) hi
noncomputable def ft_all (n : Nat) (f : Nat → Bool) : Bool := Nat.rec (motive := fun _ => Bool) true (fun i ih => f i && ih) n
theorem ft_all_at {f : Nat → Bool} : ∀ {n : Nat}, ft_all n f = true → ∀ i, i < n → f i = true := by
  intro n
  induction n with
  | zero => intro _ i hi; exact absurd hi (Nat.not_lt_zero i)
  | succ n ih =>
    intro h i hi
    have h' : (f n && ft_all n f) = true := h
    rw [Bool.and_eq_true] at h'
    by_cases e : i = n
    · rw [e]; exact h'.1
    · exact ih h'.2 i (by omega)
/- the sum, digit by digit: k digits to the base p -/
noncomputable def ft_S (p a b k : Nat) : Nat := Nat.rec (motive := fun _ => Nat) 0 (fun i s => Nat.add s (Nat.mul (Nat.mod (Nat.add (Nat.mod (Nat.div a (Nat.pow p i)) p) (Nat.mod (Nat.div b (Nat.pow p i)) p)) p) (Nat.pow p i))) k
theorem ft_S_0 (p a b : Nat) : ft_S p a b 0 = 0 := rfl
theorem ft_S_s (p a b i : Nat) : ft_S p a b (i + 1) = ft_S p a b i + (a / p ^ i % p + b / p ^ i % p) % p * p ^ i := rfl
theorem ft_S_lt {p : Nat} (hp : 0 < p) (a b : Nat) : ∀ k, ft_S p a b k < p ^ k := by
  intro k
  induction k with
  | zero => rw [ft_S_0, Nat.pow_zero]; exact Nat.one_pos
  | succ k ih =>
    rw [ft_S_s, Nat.pow_succ]
    have h1 : (a / p ^ k % p + b / p ^ k % p) % p < p := Nat.mod_lt _ hp
    generalize (a / p ^ k % p + b / p ^ k % p) % p = r at h1 ⊢
    have h2 : (r + 1) * p ^ k ≤ p * p ^ k := Nat.mul_le_mul_right _ h1
    rw [Nat.add_mul, Nat.one_mul] at h2
    rw [Nat.mul_comm (p ^ k) p]
    omega
theorem ft_S_q {q p k h : Nat} (hQ : ft_Q q p k h) (a b : Nat) : ft_S p a b k < q := by
  have hb := ft_Q_b hQ
  have := ft_S_lt (p := p) (by omega) a b k
  rwa [ft_Q_pow hQ] at this
theorem ft_S_i {q p k h i : Nat} (hQ : ft_Q q p k h) (a b : Nat) (hi : i ≤ k) : ft_S p a b i < 81 := by
  have hb := ft_Q_b hQ
  have h1 := ft_S_lt (p := p) (by omega) a b i
  have h2 := ft_Q_pi hQ hi
  omega
/- the component's product: a times t, again and again; the digits of b say how often each is added -/
noncomputable def ft_t (p k h s : Nat) : Nat := ft_S p (Nat.mul (Nat.mod s h) p) (Nat.mul (Nat.div s h) (Nat.add p 1)) k
noncomputable def ft_sh (p k h a i : Nat) : Nat := Nat.rec (motive := fun _ => Nat) a (fun _ s => ft_t p k h s) i
noncomputable def ft_an (p k s t n : Nat) : Nat := Nat.rec (motive := fun _ => Nat) t (fun _ r => ft_S p r s k) n
noncomputable def ft_tot (p k h a b i : Nat) : Nat := Nat.rec (motive := fun _ => Nat) 0 (fun i t => ft_an p k (ft_sh p k h a i) t (Nat.mod (Nat.div b (Nat.pow p i)) p)) i
theorem ft_t_e (p k h s : Nat) : ft_t p k h s = ft_S p (s % h * p) (s / h * (p + 1)) k := rfl
theorem ft_sh_s (p k h a i : Nat) : ft_sh p k h a (i + 1) = ft_t p k h (ft_sh p k h a i) := rfl
theorem ft_an_s (p k s t n : Nat) : ft_an p k s t (n + 1) = ft_S p (ft_an p k s t n) s k := rfl
theorem ft_tot_s (p k h a b i : Nat) : ft_tot p k h a b (i + 1) = ft_an p k (ft_sh p k h a i) (ft_tot p k h a b i) (b / p ^ i % p) := rfl
theorem ft_an_t (p k s t n : Nat) : ft_an p k s (ft_S p t s k) n = ft_an p k s t (n + 1) := by
  induction n with
  | zero => rfl
  | succ n ih => rw [ft_an_s, ih, ← ft_an_s]
theorem ft_an_q {q p k h : Nat} (hQ : ft_Q q p k h) {t : Nat} (ht : t < q) (s : Nat) : ∀ n, ft_an p k s t n < q := by
  intro n
  cases n with
  | zero => exact ht
  | succ n => rw [ft_an_s]; exact ft_S_q hQ _ _
theorem ft_sh_q {q p k h : Nat} (hQ : ft_Q q p k h) {a : Nat} (ha : a < q) : ∀ i, ft_sh p k h a i < q := by
  intro i
  cases i with
  | zero => exact ha
  | succ i => rw [ft_sh_s]; exact ft_S_q hQ _ _
theorem ft_tot_q {q p k h : Nat} (hQ : ft_Q q p k h) (a b : Nat) : ∀ i, ft_tot p k h a b i < q := by
  intro i
  have hb := ft_Q_b hQ
  induction i with
  | zero => show 0 < q; omega
  | succ i ih => rw [ft_tot_s]; exact ft_an_q hQ ih _ _
/- the reference's product: what the digits hold -/
def ft_w (k i m : Nat) : Bool := Nat.ble i m && Nat.ble (Nat.add (Nat.sub m i) 1) k
theorem ft_w_iff {k i m : Nat} : ft_w k i m = true ↔ i ≤ m ∧ m - i < k := by
  unfold ft_w
  rw [Bool.and_eq_true, Nat.ble_eq, Nat.ble_eq]
  exact Iff.rfl
theorem ft_w_f {k i m : Nat} (h : ¬ (i ≤ m ∧ m - i < k)) : ft_w k i m = false := by
  cases e : ft_w k i m with
  | false => rfl
  | true => exact absurd (ft_w_iff.mp e) h
noncomputable def ft_pt (p k a b i m : Nat) : Nat := cond (ft_w k i m) (Nat.mul (Nat.mod (Nat.div a (Nat.pow p i)) p) (Nat.mod (Nat.div b (Nat.pow p (Nat.sub m i))) p)) 0
noncomputable def ft_cv (p k a b m n : Nat) : Nat := Nat.rec (motive := fun _ => Nat) 0 (fun i s => Nat.add s (ft_pt p k a b i m)) n
theorem ft_cv_s (p k a b m n : Nat) : ft_cv p k a b m (n + 1) = ft_cv p k a b m n + ft_pt p k a b n m := rfl
theorem ft_pt_t {p k a b i m : Nat} (h : i ≤ m ∧ m - i < k) : ft_pt p k a b i m = (a / p ^ i % p) * (b / p ^ (m - i) % p) := by
  unfold ft_pt
  rw [ft_w_iff.mpr h]
  rfl
theorem ft_pt_f {p k a b i m : Nat} (h : ¬ (i ≤ m ∧ m - i < k)) : ft_pt p k a b i m = 0 := by
  unfold ft_pt
  rw [ft_w_f h]
  rfl
theorem ft_pt_n {p j a b i m : Nat} (h : m ≠ i + j) : ft_pt p (j + 1) a b i m = ft_pt p j a b i m := by
  by_cases c : i ≤ m ∧ m - i < j
  · rw [ft_pt_t c, ft_pt_t ⟨c.1, by omega⟩]
  · rw [ft_pt_f c, ft_pt_f (by omega)]
def ft_rs (p k n : Nat) (D : Nat → Nat) : Nat → Nat := fun j => if j = n then 0 else if j = n - k + 1 then (D (n - k + 1) + D n) % p else if j = n - k then (D (n - k) + D n) % p else D j
theorem ft_rs_at (p k n : Nat) (D : Nat → Nat) (j : Nat) : ft_rs p k n D j = if j = n then 0 else if j = n - k + 1 then (D (n - k + 1) + D n) % p else if j = n - k then (D (n - k) + D n) % p else D j := rfl
noncomputable def ft_rd (p k : Nat) (D : Nat → Nat) (j : Nat) : Nat → Nat := Nat.rec (motive := fun _ => Nat → Nat) D (fun j E => ft_rs p k (11 - j) E) j
theorem ft_rd_s (p k : Nat) (D : Nat → Nat) (j : Nat) : ft_rd p k D (j + 1) = ft_rs p k (11 - j) (ft_rd p k D j) := rfl
noncomputable def ft_v (p : Nat) (E : Nat → Nat) (k : Nat) : Nat := Nat.rec (motive := fun _ => Nat) 0 (fun i r => r + E i * p ^ i) k
theorem ft_v_s (p : Nat) (E : Nat → Nat) (i : Nat) : ft_v p E (i + 1) = ft_v p E i + E i * p ^ i := rfl
theorem ft_v_lt {p : Nat} (hp : 0 < p) {E : Nat → Nat} : ∀ k, (∀ i, i < k → E i < p) → ft_v p E k < p ^ k := by
  intro k
  induction k with
  | zero => intro _; show 0 < p ^ 0; rw [Nat.pow_zero]; exact Nat.one_pos
  | succ k ih =>
    intro hE
    have h0 := ih (fun i hi => hE i (by omega))
    rw [ft_v_s, Nat.pow_succ]
    have h1 : E k < p := hE k (by omega)
    generalize E k = r at h1 ⊢
    have h2 : (r + 1) * p ^ k ≤ p * p ^ k := Nat.mul_le_mul_right _ h1
    rw [Nat.add_mul, Nat.one_mul] at h2
    rw [Nat.mul_comm (p ^ k) p]
    omega
noncomputable def ft_D (p k a b : Nat) : Nat → Nat := fun m => Nat.mod (ft_cv p k a b m k) p
noncomputable def ft_yM (p k a b : Nat) : Nat := ft_v p (ft_rd p k (ft_D p k a b) (12 - k)) k
