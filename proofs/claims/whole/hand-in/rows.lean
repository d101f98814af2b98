section
/- rows of kit/rows (given for pasting): stores, nI arithmetic, branches by naturals, masks, shifts -/
theorem pk_us {f : Nat → Int32} {k : Nat} {x : Int32} : upd f k x k = x := if_pos rfl
theorem pk_un {f : Nat → Int32} {k j : Nat} {x : Int32} (h : j ≠ k) : upd f k x j = f j := if_neg h
theorem pk_sub {a b : Nat} (h : b ≤ a) : nI a - nI b = nI (a - b) := by
  obtain ⟨c, rfl⟩ : ∃ c, a = c + b := ⟨a - b, by omega⟩
  rw [← nI_add, Int32.add_sub_cancel, Nat.add_sub_cancel]
theorem pk_m1 (n : Nat) : nI (n + 1) + (-1) = nI n := by
  rw [← nI_1, Int32.add_assoc, show (1 : Int32) + (-1) = 0 from rfl, Int32.add_zero]
theorem pk_mul (a b : Nat) : nI a * nI b = nI (a * b) := (Int32.ofNat_mul a b).symm
theorem pk_div {a d : Nat} (ha : a < 2 ^ 31) (h0 : 0 < d) (hd : d < 2 ^ 31) : nI a / nI d = nI (a / d) := by
  apply Int32.toInt_inj.mp
  rw [lg_idiv_nonneg (by rw [nI_toInt ha]; omega) (by rw [nI_toInt hd]; omega), nI_toInt ha, nI_toInt hd, nI_toInt (Nat.lt_of_le_of_lt (Nat.div_le_self a d) ha)]
  first | rfl | exact (Int.natCast_ediv _ _).symm
theorem pk_rem {a d : Nat} (ha : a < 2 ^ 31) (h0 : 0 < d) (hd : d < 2 ^ 31) : nI a - nI a / nI d * nI d = nI (a % d) := by
  rw [pk_div ha h0 hd, pk_mul, pk_sub (Nat.div_mul_le_self a d)]
  exact congrArg nI (by have := Nat.div_add_mod' a d; omega)
theorem pk_ix (x : Int32) {n : Nat} (hn : n < 2 ^ 31) : x < 0 ∨ nI n ≤ x ∨ ∃ j : Nat, j < n ∧ x = nI j := by
  by_cases h : x < 0
  · exact Or.inl h
  · obtain ⟨j, hj, rfl⟩ := nI_of h
    by_cases h2 : j < n
    · exact Or.inr (Or.inr ⟨j, h2, rfl⟩)
    · exact Or.inr (Or.inl (nI_le (by omega) hj))
theorem pk_le {x y : Int32} {A B : Prop} (a b : Nat) (f : a ≤ b → A) (g : b < a → B) (hx : x = nI a := by rfl) (hy : y = nI b := by rfl) (ha : a < 2 ^ 31 := by omega) (hb : b < 2 ^ 31 := by omega) : (x ≤ y → A) ∧ (¬ x ≤ y → B) := by
  subst hx hy
  rw [nI_leI ha hb]
  exact ⟨f, fun z => g (by omega)⟩
theorem pk_lt {x y : Int32} {A B : Prop} (a b : Nat) (f : a < b → A) (g : b ≤ a → B) (hx : x = nI a := by rfl) (hy : y = nI b := by rfl) (ha : a < 2 ^ 31 := by omega) (hb : b < 2 ^ 31 := by omega) : (x < y → A) ∧ (¬ x < y → B) := by
  subst hx hy
  rw [nI_ltI ha hb]
  exact ⟨f, fun z => g (by omega)⟩
theorem pk_eq {x y : Int32} {A B : Prop} (a b : Nat) (f : a = b → A) (g : a ≠ b → B) (hx : x = nI a := by rfl) (hy : y = nI b := by rfl) (ha : a < 2 ^ 31 := by omega) (hb : b < 2 ^ 31 := by omega) : (x = y → A) ∧ (¬ x = y → B) := by
  subst hx hy
  rw [nI_eq ha hb]
  exact ⟨f, g⟩
theorem pk_in {x : Int32} (n N : Nat) (h : n < N) (hx : x = nI n := by rfl) (hN : N < 2 ^ 31 := by omega) : vp_in x N := by
  subst hx
  exact vp_in_nI h hN
theorem pk_cl {x : Int32} (n : Nat) (hx : x = nI n := by rfl) (h : n < 2 ^ 31 := by omega) : x.toNatClampNeg = n := by
  subst hx
  exact nI_clamp h
theorem pk_tn {n : Nat} (h : n < 2 ^ 32) : (nI n).toBitVec.toNat = n := Nat.mod_eq_of_lt h
theorem pk_and (x : Int32) {m : Int32} (k : Nat) (hm : m.toBitVec.toNat = 2 ^ k - 1) : x &&& m = nI (x.toBitVec.toNat % 2 ^ k) := by
  apply Int32.toBitVec_inj.mp
  apply BitVec.eq_of_toNat_eq
  rw [Int32.toBitVec_and, BitVec.toNat_and, hm, Nat.and_two_pow_sub_one_eq_mod]
  show _ = (BitVec.ofNat 32 _).toNat
  rw [BitVec.toNat_ofNat]
  exact (Nat.mod_eq_of_lt (Nat.lt_of_le_of_lt (Nat.mod_le _ _) x.toBitVec.isLt)).symm
theorem pk_andN {n : Nat} (h : n < 2 ^ 32) {m : Int32} (k : Nat) (hm : m.toBitVec.toNat = 2 ^ k - 1) : nI n &&& m = nI (n % 2 ^ k) := by
  rw [pk_and _ k hm, pk_tn h]
theorem pk_andE (x : Int32) {m : Int32} (k : Nat) (hm : m.toBitVec.toNat = 2 ^ k - 1) : ∃ j : Nat, j < 2 ^ k ∧ x &&& m = nI j := ⟨_, Nat.mod_lt _ (Nat.two_pow_pos k), pk_and x k hm⟩
theorem pk_andIn (x : Int32) {m : Int32} (k : Nat) (hm : m.toBitVec.toNat = 2 ^ k - 1) (hk : k ≤ 30) : vp_in (x &&& m) (2 ^ k) := by
  obtain ⟨j, hj, e⟩ := pk_andE x k hm
  rw [e]
  exact vp_in_nI hj (Nat.lt_of_le_of_lt (Nat.pow_le_pow_right (by decide) hk) (by decide))
theorem pk_shr (a s : Int32) (k : Nat) (hs : (s.toBitVec.smod 32).toNat = k) : (a >>> s).toInt = a.toInt >>> k := by
  show (a.toBitVec.sshiftRight (s.toBitVec.smod 32).toNat).toInt = _
  rw [hs, BitVec.toInt_sshiftRight]
  rfl
theorem pk_shrN {n : Nat} (h : n < 2 ^ 31) (s : Int32) (k : Nat) (hs : (s.toBitVec.smod 32).toNat = k) : nI n >>> s = nI (n / 2 ^ k) := by
  apply Int32.toInt_inj.mp
  have h2 : n / 2 ^ k ≤ n := Nat.div_le_self _ _
  rw [pk_shr _ _ k hs, nI_toInt h, nI_toInt (by omega), Int.shiftRight_eq_div_pow]
  rfl
theorem s_l : ∀ n, n < 32 → ((nI n &&& 31).toBitVec.smod 32).toNat = n := by decide +kernel
end
section
/- the pure pictures: sums, products, powers over naturals below q -/
def ft_Q (q p k h : Nat) : Prop := (q = 64 ∧ p = 2 ∧ k = 6 ∧ h = 32) ∨ (q = 81 ∧ p = 3 ∧ k = 4 ∧ h = 27)
theorem ft_Q_pow {q p k h : Nat} (hQ : ft_Q q p k h) : p ^ k = q := by
  rcases hQ with ⟨rfl, rfl, rfl, rfl⟩ | ⟨rfl, rfl, rfl, rfl⟩ <;> decide
theorem ft_Q_b {q p k h : Nat} (hQ : ft_Q q p k h) : 2 ≤ p ∧ p ≤ 3 ∧ 4 ≤ k ∧ k ≤ 6 ∧ 64 ≤ q ∧ q ≤ 81 ∧ 27 ≤ h ∧ h ≤ 32 ∧ h * p = q := by
  rcases hQ with ⟨rfl, rfl, rfl, rfl⟩ | ⟨rfl, rfl, rfl, rfl⟩ <;> decide
theorem ft_Q_pi {q p k h i : Nat} (hQ : ft_Q q p k h) (hi : i ≤ k) : 1 ≤ p ^ i ∧ p ^ i ≤ q := by
  have hb := ft_Q_b hQ
  refine ⟨Nat.pow_pos (by omega), ?_⟩
  rw [← ft_Q_pow hQ]
  exact Nat.pow_le_pow_right (by omega) hi
noncomputable def ft_all (n : Nat) (f : Nat → Bool) : Bool := Nat.rec (motive := fun _ => Bool) true (fun i ih => f i && ih) n
theorem ft_all_at {f : Nat → Bool} : ∀ {n : Nat}, ft_all n f = true → ∀ i, i < n → f i = true := by
  intro n
  induction n with
  | zero => intro _ i hi; exact absurd hi (Nat.not_lt_zero i)
  | succ n ih =>
    intro h i hi
    have h' : (f n && ft_all n f) = true := h
    rw [Bool.and_eq_true] at h'
    by_cases e : i = n
    · rw [e]; exact h'.1
    · exact ih h'.2 i (by omega)
/- the sum, digit by digit: k digits to the base p -/
noncomputable def ft_S (p a b k : Nat) : Nat := Nat.rec (motive := fun _ => Nat) 0 (fun i s => Nat.add s (Nat.mul (Nat.mod (Nat.add (Nat.mod (Nat.div a (Nat.pow p i)) p) (Nat.mod (Nat.div b (Nat.pow p i)) p)) p) (Nat.pow p i))) k
theorem ft_S_0 (p a b : Nat) : ft_S p a b 0 = 0 := rfl
theorem ft_S_s (p a b i : Nat) : ft_S p a b (i + 1) = ft_S p a b i + (a / p ^ i % p + b / p ^ i % p) % p * p ^ i := rfl
theorem ft_S_lt {p : Nat} (hp : 0 < p) (a b : Nat) : ∀ k, ft_S p a b k < p ^ k := by
  intro k
  induction k with
  | zero => rw [ft_S_0, Nat.pow_zero]; exact Nat.one_pos
  | succ k ih =>
    rw [ft_S_s, Nat.pow_succ]
    have h1 : (a / p ^ k % p + b / p ^ k % p) % p < p := Nat.mod_lt _ hp
    generalize (a / p ^ k % p + b / p ^ k % p) % p = r at h1 ⊢
    have h2 : (r + 1) * p ^ k ≤ p * p ^ k := Nat.mul_le_mul_right _ h1
    rw [Nat.add_mul, Nat.one_mul] at h2
    rw [Nat.mul_comm (p ^ k) p]
    omega
theorem ft_S_q {q p k h : Nat} (hQ : ft_Q q p k h) (a b : Nat) : ft_S p a b k < q := by
  have hb := ft_Q_b hQ
  have := ft_S_lt (p := p) (by omega) a b k
  rwa [ft_Q_pow hQ] at this
theorem ft_S_i {q p k h i : Nat} (hQ : ft_Q q p k h) (a b : Nat) (hi : i ≤ k) : ft_S p a b i < 81 := by
  have hb := ft_Q_b hQ
  have h1 := ft_S_lt (p := p) (by omega) a b i
  have h2 := ft_Q_pi hQ hi
  omega
/- the component's product: a times t, again and again; the digits of b say how often each is added -/
noncomputable def ft_t (p k h s : Nat) : Nat := ft_S p (Nat.mul (Nat.mod s h) p) (Nat.mul (Nat.div s h) (Nat.add p 1)) k
noncomputable def ft_sh (p k h a i : Nat) : Nat := Nat.rec (motive := fun _ => Nat) a (fun _ s => ft_t p k h s) i
noncomputable def ft_an (p k s t n : Nat) : Nat := Nat.rec (motive := fun _ => Nat) t (fun _ r => ft_S p r s k) n
noncomputable def ft_tot (p k h a b i : Nat) : Nat := Nat.rec (motive := fun _ => Nat) 0 (fun i t => ft_an p k (ft_sh p k h a i) t (Nat.mod (Nat.div b (Nat.pow p i)) p)) i
theorem ft_t_e (p k h s : Nat) : ft_t p k h s = ft_S p (s % h * p) (s / h * (p + 1)) k := rfl
theorem ft_sh_s (p k h a i : Nat) : ft_sh p k h a (i + 1) = ft_t p k h (ft_sh p k h a i) := rfl
theorem ft_an_s (p k s t n : Nat) : ft_an p k s t (n + 1) = ft_S p (ft_an p k s t n) s k := rfl
theorem ft_tot_s (p k h a b i : Nat) : ft_tot p k h a b (i + 1) = ft_an p k (ft_sh p k h a i) (ft_tot p k h a b i) (b / p ^ i % p) := rfl
theorem ft_an_t (p k s t n : Nat) : ft_an p k s (ft_S p t s k) n = ft_an p k s t (n + 1) := by
  induction n with
  | zero => rfl
  | succ n ih => rw [ft_an_s, ih, ← ft_an_s]
theorem ft_an_q {q p k h : Nat} (hQ : ft_Q q p k h) {t : Nat} (ht : t < q) (s : Nat) : ∀ n, ft_an p k s t n < q := by
  intro n
  cases n with
  | zero => exact ht
  | succ n => rw [ft_an_s]; exact ft_S_q hQ _ _
theorem ft_sh_q {q p k h : Nat} (hQ : ft_Q q p k h) {a : Nat} (ha : a < q) : ∀ i, ft_sh p k h a i < q := by
  intro i
  cases i with
  | zero => exact ha
  | succ i => rw [ft_sh_s]; exact ft_S_q hQ _ _
theorem ft_tot_q {q p k h : Nat} (hQ : ft_Q q p k h) (a b : Nat) : ∀ i, ft_tot p k h a b i < q := by
  intro i
  have hb := ft_Q_b hQ
  induction i with
  | zero => show 0 < q; omega
  | succ i ih => rw [ft_tot_s]; exact ft_an_q hQ ih _ _
/- the reference's product: what the digits hold -/
def ft_w (k i m : Nat) : Bool := Nat.ble i m && Nat.ble (Nat.add (Nat.sub m i) 1) k
theorem ft_w_iff {k i m : Nat} : ft_w k i m = true ↔ i ≤ m ∧ m - i < k := by
  unfold ft_w
  rw [Bool.and_eq_true, Nat.ble_eq, Nat.ble_eq]
  exact Iff.rfl
theorem ft_w_f {k i m : Nat} (h : ¬ (i ≤ m ∧ m - i < k)) : ft_w k i m = false := by
  cases e : ft_w k i m with
  | false => rfl
  | true => exact absurd (ft_w_iff.mp e) h
noncomputable def ft_pt (p k a b i m : Nat) : Nat := cond (ft_w k i m) (Nat.mul (Nat.mod (Nat.div a (Nat.pow p i)) p) (Nat.mod (Nat.div b (Nat.pow p (Nat.sub m i))) p)) 0
noncomputable def ft_cv (p k a b m n : Nat) : Nat := Nat.rec (motive := fun _ => Nat) 0 (fun i s => Nat.add s (ft_pt p k a b i m)) n
theorem ft_cv_s (p k a b m n : Nat) : ft_cv p k a b m (n + 1) = ft_cv p k a b m n + ft_pt p k a b n m := rfl
theorem ft_pt_t {p k a b i m : Nat} (h : i ≤ m ∧ m - i < k) : ft_pt p k a b i m = (a / p ^ i % p) * (b / p ^ (m - i) % p) := by
  unfold ft_pt
  rw [ft_w_iff.mpr h]
  rfl
theorem ft_pt_f {p k a b i m : Nat} (h : ¬ (i ≤ m ∧ m - i < k)) : ft_pt p k a b i m = 0 := by
  unfold ft_pt
  rw [ft_w_f h]
  rfl
theorem ft_pt_n {p j a b i m : Nat} (h : m ≠ i + j) : ft_pt p (j + 1) a b i m = ft_pt p j a b i m := by
  by_cases c : i ≤ m ∧ m - i < j
  · rw [ft_pt_t c, ft_pt_t ⟨c.1, by omega⟩]
  · rw [ft_pt_f c, ft_pt_f (by omega)]
def ft_rs (p k n : Nat) (D : Nat → Nat) : Nat → Nat := fun j => if j = n then 0 else if j = n - k + 1 then (D (n - k + 1) + D n) % p else if j = n - k then (D (n - k) + D n) % p else D j
theorem ft_rs_at (p k n : Nat) (D : Nat → Nat) (j : Nat) : ft_rs p k n D j = if j = n then 0 else if j = n - k + 1 then (D (n - k + 1) + D n) % p else if j = n - k then (D (n - k) + D n) % p else D j := rfl
noncomputable def ft_rd (p k : Nat) (D : Nat → Nat) (j : Nat) : Nat → Nat := Nat.rec (motive := fun _ => Nat → Nat) D (fun j E => ft_rs p k (11 - j) E) j
theorem ft_rd_s (p k : Nat) (D : Nat → Nat) (j : Nat) : ft_rd p k D (j + 1) = ft_rs p k (11 - j) (ft_rd p k D j) := rfl
noncomputable def ft_v (p : Nat) (E : Nat → Nat) (k : Nat) : Nat := Nat.rec (motive := fun _ => Nat) 0 (fun i r => r + E i * p ^ i) k
theorem ft_v_s (p : Nat) (E : Nat → Nat) (i : Nat) : ft_v p E (i + 1) = ft_v p E i + E i * p ^ i := rfl
theorem ft_v_lt {p : Nat} (hp : 0 < p) {E : Nat → Nat} : ∀ k, (∀ i, i < k → E i < p) → ft_v p E k < p ^ k := by
  intro k
  induction k with
  | zero => intro _; show 0 < p ^ 0; rw [Nat.pow_zero]; exact Nat.one_pos
  | succ k ih =>
    intro hE
    have h0 := ih (fun i hi => hE i (by omega))
    rw [ft_v_s, Nat.pow_succ]
    have h1 : E k < p := hE k (by omega)
    generalize E k = r at h1 ⊢
    have h2 : (r + 1) * p ^ k ≤ p * p ^ k := Nat.mul_le_mul_right _ h1
    rw [Nat.add_mul, Nat.one_mul] at h2
    rw [Nat.mul_comm (p ^ k) p]
    omega
noncomputable def ft_D (p k a b : Nat) : Nat → Nat := fun m => Nat.mod (ft_cv p k a b m k) p
noncomputable def ft_yM (p k a b : Nat) : Nat := ft_v p (ft_rd p k (ft_D p k a b) (12 - k)) k
end
section
/- the two fields by logarithms to the base t: E, the powers of t, L, the logarithms, a byte each -/
def ft_lk (T i : Nat) : Nat := Nat.land (Nat.shiftRight T (Nat.mul 8 i)) 255
def ft_m (r E L a b : Nat) : Nat := cond (Nat.beq (Nat.mul a b) 0) 0 (ft_lk E (Nat.mod (Nat.add (ft_lk L a) (ft_lk L b)) r))
def ft_ml (q a b : Nat) : Nat := cond (Nat.beq q 64) (ft_m 63 0x2131393d3f3e1f2e172a152b341a0d2732192d373a1d2f361b2c160b2412092533381c0e07221129353b3c1e0f261328140a052330180c0603201008040201 0x3a393b14152a3c1d2b2716321e2e3d0a28372c253335170f2f111f220b193e053813291c26312d093624340e10211804121b3008230d20031a070c0206010000 a b) (ft_m 80 0x1d4032474b19222529444d504e1a3c143d2e2c4216210b3a2d0f0538493545173e48180836120602372f46312a0e3b4a4f342b28270d1e0a20414c33113913233f15071c264330101f240c041b090301 0x441f4345154b20332e4c2531460a3c164e0f2f3f4121381234272b321e144d2409263e373d1d23471c1b0b480610493a1707194f0c03424a2d303b0e40112a130836221a053918022c0d29350401280000 a b)
def ft_g64 (D : Nat → Nat) : Nat := Nat.add (Nat.add (Nat.add (Nat.add (Nat.add (Nat.mul (Nat.mod (Nat.add (D 0) (D 6)) 2) 1) (Nat.mul (Nat.mod (Nat.add (Nat.add (D 1) (D 7)) (D 6)) 2) 2)) (Nat.mul (Nat.mod (Nat.add (Nat.add (D 2) (D 8)) (D 7)) 2) 4)) (Nat.mul (Nat.mod (Nat.add (Nat.add (D 3) (D 9)) (D 8)) 2) 8)) (Nat.mul (Nat.mod (Nat.add (Nat.add (D 4) (D 10)) (D 9)) 2) 16)) (Nat.mul (Nat.mod (Nat.add (D 5) (D 10)) 2) 32)
def ft_g81 (D : Nat → Nat) : Nat := Nat.add (Nat.add (Nat.add (Nat.mul (Nat.mod (Nat.add (D 0) (D 4)) 3) 1) (Nat.mul (Nat.mod (Nat.add (Nat.add (D 1) (D 5)) (D 4)) 3) 3)) (Nat.mul (Nat.mod (Nat.add (Nat.add (D 2) (D 6)) (D 5)) 3) 9)) (Nat.mul (Nat.mod (Nat.add (D 3) (D 6)) 3) 27)
theorem ft_g64_e (D : Nat → Nat) : ft_g64 D = (D 0 + D 6) % 2 * 1 + (D 1 + D 7 + D 6) % 2 * 2 + (D 2 + D 8 + D 7) % 2 * 4 + (D 3 + D 9 + D 8) % 2 * 8 + (D 4 + D 10 + D 9) % 2 * 16 + (D 5 + D 10) % 2 * 32 := rfl
theorem ft_g81_e (D : Nat → Nat) : ft_g81 D = (D 0 + D 4) % 3 * 1 + (D 1 + D 5 + D 4) % 3 * 3 + (D 2 + D 6 + D 5) % 3 * 9 + (D 3 + D 6) % 3 * 27 := rfl
theorem ft_cv_0 {p k a b m : Nat} (hm : 2 * k ≤ m + 1) : ∀ n, n ≤ k → ft_cv p k a b m n = 0 := by
  intro n
  induction n with
  | zero => intro _; rfl
  | succ n ih =>
    intro hn
    rw [ft_cv_s, ih (by omega), ft_pt_f (by omega)]
theorem ft_D_0 {p k a b m : Nat} (hm : 2 * k ≤ m + 1) : ft_D p k a b m = 0 := by
  show ft_cv p k a b m k % p = 0
  rw [ft_cv_0 hm k (Nat.le_refl k), Nat.zero_mod]
theorem ft_y64 {D : Nat → Nat} (hD : ∀ m, 11 ≤ m → D m = 0) : ft_v 2 (ft_rd 2 6 D 6) 6 = ft_g64 D := by
  have e : ft_rd 2 6 D 6 = ft_rs 2 6 6 (ft_rs 2 6 7 (ft_rs 2 6 8 (ft_rs 2 6 9 (ft_rs 2 6 10 (ft_rs 2 6 11 (D)))))) := rfl
  have h11 := hD 11 (by omega)
  have v : ∀ E : Nat → Nat, ft_v 2 E 6 = 0 + E 0 * 2 ^ 0 + E 1 * 2 ^ 1 + E 2 * 2 ^ 2 + E 3 * 2 ^ 3 + E 4 * 2 ^ 4 + E 5 * 2 ^ 5 := fun _ => rfl
  rw [v, e, ft_g64_e]
  simp [ft_rs_at, h11]
theorem ft_y81 {D : Nat → Nat} (hD : ∀ m, 7 ≤ m → D m = 0) : ft_v 3 (ft_rd 3 4 D 8) 4 = ft_g81 D := by
  have e : ft_rd 3 4 D 8 = ft_rs 3 4 4 (ft_rs 3 4 5 (ft_rs 3 4 6 (ft_rs 3 4 7 (ft_rs 3 4 8 (ft_rs 3 4 9 (ft_rs 3 4 10 (ft_rs 3 4 11 (D)))))))) := rfl
  have h7 := hD 7 (by omega)
  have h8 := hD 8 (by omega)
  have h9 := hD 9 (by omega)
  have h10 := hD 10 (by omega)
  have h11 := hD 11 (by omega)
  have v : ∀ E : Nat → Nat, ft_v 3 E 4 = 0 + E 0 * 3 ^ 0 + E 1 * 3 ^ 1 + E 2 * 3 ^ 2 + E 3 * 3 ^ 3 := fun _ => rfl
  rw [v, e, ft_g81_e]
  simp [ft_rs_at, h7, h8, h9, h10, h11]
noncomputable def ft_f64 (a b : Nat) : Bool := Nat.beq (ft_tot 2 6 32 a b 6) (ft_ml 64 a b) && Nat.beq (ft_g64 (ft_D 2 6 a b)) (ft_ml 64 a b)
theorem ft_c64_0 : ft_all 8 (fun i => ft_all 64 (fun b => ft_f64 (Nat.add (Nat.mul 8 0) i) b)) = true := by decide +kernel
theorem ft_c64_1 : ft_all 8 (fun i => ft_all 64 (fun b => ft_f64 (Nat.add (Nat.mul 8 1) i) b)) = true := by decide +kernel
theorem ft_c64_2 : ft_all 8 (fun i => ft_all 64 (fun b => ft_f64 (Nat.add (Nat.mul 8 2) i) b)) = true := by decide +kernel
theorem ft_c64_3 : ft_all 8 (fun i => ft_all 64 (fun b => ft_f64 (Nat.add (Nat.mul 8 3) i) b)) = true := by decide +kernel
theorem ft_c64_4 : ft_all 8 (fun i => ft_all 64 (fun b => ft_f64 (Nat.add (Nat.mul 8 4) i) b)) = true := by decide +kernel
theorem ft_c64_5 : ft_all 8 (fun i => ft_all 64 (fun b => ft_f64 (Nat.add (Nat.mul 8 5) i) b)) = true := by decide +kernel
theorem ft_c64_6 : ft_all 8 (fun i => ft_all 64 (fun b => ft_f64 (Nat.add (Nat.mul 8 6) i) b)) = true := by decide +kernel
theorem ft_c64_7 : ft_all 8 (fun i => ft_all 64 (fun b => ft_f64 (Nat.add (Nat.mul 8 7) i) b)) = true := by decide +kernel
theorem ft_c64_j : ∀ j, j < 8 → ft_all 8 (fun i => ft_all 64 (fun b => ft_f64 (Nat.add (Nat.mul 8 j) i) b)) = true
  | 0, _ => ft_c64_0
  | 1, _ => ft_c64_1
  | 2, _ => ft_c64_2
  | 3, _ => ft_c64_3
  | 4, _ => ft_c64_4
  | 5, _ => ft_c64_5
  | 6, _ => ft_c64_6
  | 7, _ => ft_c64_7
  | n + 8, h => absurd h (by omega)
theorem ft_c64 {a b : Nat} (ha : a < 64) (hb : b < 64) : ft_f64 a b = true := by
  have h := ft_all_at (ft_all_at (ft_c64_j (a / 8) (by omega)) (a % 8) (by omega)) b hb
  have e : Nat.add (Nat.mul 8 (a / 8)) (a % 8) = a := Nat.div_add_mod a 8
  rwa [e] at h
theorem ft_x64 {a b : Nat} (ha : a < 64) (hb : b < 64) : ft_tot 2 6 32 a b 6 = ft_ml 64 a b := by
  have h := ft_c64 ha hb
  unfold ft_f64 at h
  rw [Bool.and_eq_true] at h
  exact Nat.eq_of_beq_eq_true h.1
theorem ft_z64 {a b : Nat} (ha : a < 64) (hb : b < 64) : ft_yM 2 6 a b = ft_ml 64 a b := by
  have h := ft_c64 ha hb
  unfold ft_f64 at h
  rw [Bool.and_eq_true] at h
  have h2 := Nat.eq_of_beq_eq_true h.2
  have h3 := ft_y64 (D := ft_D 2 6 a b) (fun m hm => ft_D_0 (by omega))
  exact h3.trans h2
noncomputable def ft_f81 (a b : Nat) : Bool := Nat.beq (ft_tot 3 4 27 a b 4) (ft_ml 81 a b) && Nat.beq (ft_g81 (ft_D 3 4 a b)) (ft_ml 81 a b)
theorem ft_c81_0 : ft_all 9 (fun i => ft_all 81 (fun b => ft_f81 (Nat.add (Nat.mul 9 0) i) b)) = true := by decide +kernel
theorem ft_c81_1 : ft_all 9 (fun i => ft_all 81 (fun b => ft_f81 (Nat.add (Nat.mul 9 1) i) b)) = true := by decide +kernel
theorem ft_c81_2 : ft_all 9 (fun i => ft_all 81 (fun b => ft_f81 (Nat.add (Nat.mul 9 2) i) b)) = true := by decide +kernel
theorem ft_c81_3 : ft_all 9 (fun i => ft_all 81 (fun b => ft_f81 (Nat.add (Nat.mul 9 3) i) b)) = true := by decide +kernel
theorem ft_c81_4 : ft_all 9 (fun i => ft_all 81 (fun b => ft_f81 (Nat.add (Nat.mul 9 4) i) b)) = true := by decide +kernel
theorem ft_c81_5 : ft_all 9 (fun i => ft_all 81 (fun b => ft_f81 (Nat.add (Nat.mul 9 5) i) b)) = true := by decide +kernel
theorem ft_c81_6 : ft_all 9 (fun i => ft_all 81 (fun b => ft_f81 (Nat.add (Nat.mul 9 6) i) b)) = true := by decide +kernel
theorem ft_c81_7 : ft_all 9 (fun i => ft_all 81 (fun b => ft_f81 (Nat.add (Nat.mul 9 7) i) b)) = true := by decide +kernel
theorem ft_c81_8 : ft_all 9 (fun i => ft_all 81 (fun b => ft_f81 (Nat.add (Nat.mul 9 8) i) b)) = true := by decide +kernel
theorem ft_c81_j : ∀ j, j < 9 → ft_all 9 (fun i => ft_all 81 (fun b => ft_f81 (Nat.add (Nat.mul 9 j) i) b)) = true
  | 0, _ => ft_c81_0
  | 1, _ => ft_c81_1
  | 2, _ => ft_c81_2
  | 3, _ => ft_c81_3
  | 4, _ => ft_c81_4
  | 5, _ => ft_c81_5
  | 6, _ => ft_c81_6
  | 7, _ => ft_c81_7
  | 8, _ => ft_c81_8
  | n + 9, h => absurd h (by omega)
theorem ft_c81 {a b : Nat} (ha : a < 81) (hb : b < 81) : ft_f81 a b = true := by
  have h := ft_all_at (ft_all_at (ft_c81_j (a / 9) (by omega)) (a % 9) (by omega)) b hb
  have e : Nat.add (Nat.mul 9 (a / 9)) (a % 9) = a := Nat.div_add_mod a 9
  rwa [e] at h
theorem ft_x81 {a b : Nat} (ha : a < 81) (hb : b < 81) : ft_tot 3 4 27 a b 4 = ft_ml 81 a b := by
  have h := ft_c81 ha hb
  unfold ft_f81 at h
  rw [Bool.and_eq_true] at h
  exact Nat.eq_of_beq_eq_true h.1
theorem ft_z81 {a b : Nat} (ha : a < 81) (hb : b < 81) : ft_yM 3 4 a b = ft_ml 81 a b := by
  have h := ft_c81 ha hb
  unfold ft_f81 at h
  rw [Bool.and_eq_true] at h
  have h2 := Nat.eq_of_beq_eq_true h.2
  have h3 := ft_y81 (D := ft_D 3 4 a b) (fun m hm => ft_D_0 (by omega))
  exact h3.trans h2
theorem ft_xM {q p k h a b : Nat} (hQ : ft_Q q p k h) (ha : a < q) (hb : b < q) : ft_tot p k h a b k = ft_ml q a b := by
  rcases hQ with ⟨rfl, rfl, rfl, rfl⟩ | ⟨rfl, rfl, rfl, rfl⟩
  · exact ft_x64 ha hb
  · exact ft_x81 ha hb
theorem ft_yM_e {q p k h a b : Nat} (hQ : ft_Q q p k h) (ha : a < q) (hb : b < q) : ft_yM p k a b = ft_ml q a b := by
  rcases hQ with ⟨rfl, rfl, rfl, rfl⟩ | ⟨rfl, rfl, rfl, rfl⟩
  · exact ft_z64 ha hb
  · exact ft_z81 ha hb
theorem ft_ml_q {q p k h a b : Nat} (hQ : ft_Q q p k h) (ha : a < q) (hb : b < q) : ft_ml q a b < q := by
  rw [← ft_xM hQ ha hb]
  exact ft_tot_q hQ a b k
/- powers: by squares (both sides), and one by one -/
noncomputable def ft_sq (q a i : Nat) : Nat := Nat.rec (motive := fun _ => Nat) a (fun _ s => ft_ml q s s) i
noncomputable def ft_rr (q a n i : Nat) : Nat := Nat.rec (motive := fun _ => Nat) 1 (fun i r => cond (Nat.beq (Nat.mod (Nat.div n (Nat.pow 2 i)) 2) 1) (ft_ml q r (ft_sq q a i)) r) i
noncomputable def ft_pw (q a n : Nat) : Nat := ft_rr q a n 20
noncomputable def ft_it (q a n : Nat) : Nat := Nat.rec (motive := fun _ => Nat) 1 (fun _ s => ft_ml q s a) n
theorem ft_sq_s (q a i : Nat) : ft_sq q a (i + 1) = ft_ml q (ft_sq q a i) (ft_sq q a i) := rfl
theorem ft_it_s (q a i : Nat) : ft_it q a (i + 1) = ft_ml q (ft_it q a i) a := rfl
theorem ft_rr_s (q a n i : Nat) : ft_rr q a n (i + 1) = cond (Nat.beq (n / 2 ^ i % 2) 1) (ft_ml q (ft_rr q a n i) (ft_sq q a i)) (ft_rr q a n i) := rfl
theorem ft_rr_1 {q a n i : Nat} (h : n / 2 ^ i % 2 = 1) : ft_rr q a n (i + 1) = ft_ml q (ft_rr q a n i) (ft_sq q a i) := by
  rw [ft_rr_s, h]; rfl
theorem ft_rr_0 {q a n i : Nat} (h : n / 2 ^ i % 2 ≠ 1) : ft_rr q a n (i + 1) = ft_rr q a n i := by
  have e : n / 2 ^ i % 2 = 0 := by omega
  rw [ft_rr_s, e]; rfl
theorem ft_rr_z {q a n i : Nat} (h : n / 2 ^ i = 0) : ∀ d, ft_rr q a n (i + d) = ft_rr q a n i := by
  intro d
  induction d with
  | zero => rfl
  | succ d ih =>
    have e : n / 2 ^ (i + d) = 0 := by rw [Nat.pow_add, ← Nat.div_div_eq_div_mul, h, Nat.zero_div]
    rw [← Nat.add_assoc, ft_rr_0 (by rw [e]; decide), ih]
theorem ft_sq_q {q p k h a : Nat} (hQ : ft_Q q p k h) (ha : a < q) : ∀ i, ft_sq q a i < q := by
  intro i
  induction i with
  | zero => exact ha
  | succ i ih => rw [ft_sq_s]; exact ft_ml_q hQ ih ih
theorem ft_rr_q {q p k h a : Nat} (hQ : ft_Q q p k h) (ha : a < q) (n : Nat) : ∀ i, ft_rr q a n i < q := by
  intro i
  have hb := ft_Q_b hQ
  induction i with
  | zero => show 1 < q; omega
  | succ i ih =>
    by_cases c : n / 2 ^ i % 2 = 1
    · rw [ft_rr_1 c]; exact ft_ml_q hQ ih (ft_sq_q hQ ha i)
    · rw [ft_rr_0 c]; exact ih
theorem ft_pw_q {q p k h a : Nat} (hQ : ft_Q q p k h) (ha : a < q) (n : Nat) : ft_pw q a n < q := ft_rr_q hQ ha n 20
theorem ft_it_q {q p k h a : Nat} (hQ : ft_Q q p k h) (ha : a < q) : ∀ i, ft_it q a i < q := by
  intro i
  have hb := ft_Q_b hQ
  induction i with
  | zero => show 1 < q; omega
  | succ i ih => rw [ft_it_s]; exact ft_ml_q hQ ih ha
/- closed facts: one is neutral, a^(q-1) is 1, the inverse is a^(q-2) and no other, 0 has none -/
noncomputable def ft_k1 (q a : Nat) : Bool := Nat.beq (ft_ml q 1 a) a && cond (Nat.beq a 0) true (Nat.beq (ft_it q a (Nat.sub q 1)) 1)
noncomputable def ft_k2 (q a : Nat) : Bool := ft_all q (fun b => cond (Nat.beq (ft_ml q a b) 1) (Nat.beq b (ft_pw q a (Nat.sub q 2))) true)
noncomputable def ft_k3 (q a : Nat) : Bool := cond (Nat.beq a 0) (ft_all q (fun b => Nat.beq (ft_ml q 0 b) 0)) (Nat.beq (ft_ml q a (ft_pw q a (Nat.sub q 2))) 1)
theorem ft_k1_64 : ft_all 64 (ft_k1 64) = true := by decide +kernel
theorem ft_k1_81 : ft_all 81 (ft_k1 81) = true := by decide +kernel
theorem ft_k2_64 : ft_all 64 (ft_k2 64) = true := by decide +kernel
theorem ft_k2_81 : ft_all 81 (ft_k2 81) = true := by decide +kernel
theorem ft_k3_64 : ft_all 64 (ft_k3 64) = true := by decide +kernel
theorem ft_k3_81 : ft_all 81 (ft_k3 81) = true := by decide +kernel
theorem ft_one {q p k h a : Nat} (hQ : ft_Q q p k h) (ha : a < q) : ft_ml q 1 a = a := by
  have H : ft_k1 q a = true := by
    rcases hQ with ⟨rfl, rfl, rfl, rfl⟩ | ⟨rfl, rfl, rfl, rfl⟩
    · exact ft_all_at ft_k1_64 a ha
    · exact ft_all_at ft_k1_81 a ha
  unfold ft_k1 at H
  rw [Bool.and_eq_true] at H
  exact Nat.eq_of_beq_eq_true H.1
theorem ft_ord {q p k h a : Nat} (hQ : ft_Q q p k h) (ha : a < q) (h0 : 0 < a) : ft_it q a (q - 1) = 1 := by
  have H : ft_k1 q a = true := by
    rcases hQ with ⟨rfl, rfl, rfl, rfl⟩ | ⟨rfl, rfl, rfl, rfl⟩
    · exact ft_all_at ft_k1_64 a ha
    · exact ft_all_at ft_k1_81 a ha
  unfold ft_k1 at H
  rw [Bool.and_eq_true] at H
  obtain ⟨c, rfl⟩ : ∃ c, a = c + 1 := ⟨a - 1, by omega⟩
  exact Nat.eq_of_beq_eq_true H.2
theorem ft_inv1 {q p k h a b : Nat} (hQ : ft_Q q p k h) (ha : a < q) (hb : b < q) (e : ft_ml q a b = 1) : b = ft_pw q a (q - 2) := by
  have H : ft_k2 q a = true := by
    rcases hQ with ⟨rfl, rfl, rfl, rfl⟩ | ⟨rfl, rfl, rfl, rfl⟩
    · exact ft_all_at ft_k2_64 a ha
    · exact ft_all_at ft_k2_81 a ha
  unfold ft_k2 at H
  have H2 := ft_all_at H b hb
  rw [e] at H2
  exact Nat.eq_of_beq_eq_true H2
theorem ft_inv2 {q p k h a : Nat} (hQ : ft_Q q p k h) (ha : a < q) (h0 : 0 < a) : ft_ml q a (ft_pw q a (q - 2)) = 1 := by
  have H : ft_k3 q a = true := by
    rcases hQ with ⟨rfl, rfl, rfl, rfl⟩ | ⟨rfl, rfl, rfl, rfl⟩
    · exact ft_all_at ft_k3_64 a ha
    · exact ft_all_at ft_k3_81 a ha
  unfold ft_k3 at H
  obtain ⟨c, rfl⟩ : ∃ c, a = c + 1 := ⟨a - 1, by omega⟩
  exact Nat.eq_of_beq_eq_true H
theorem ft_nul {q p k h b : Nat} (hQ : ft_Q q p k h) (hb : b < q) : ft_ml q 0 b = 0 := by
  have H : ft_k3 q 0 = true := by
    rcases hQ with ⟨rfl, rfl, rfl, rfl⟩ | ⟨rfl, rfl, rfl, rfl⟩
    · exact ft_all_at ft_k3_64 0 (by decide)
    · exact ft_all_at ft_k3_81 0 (by decide)
  unfold ft_k3 at H
  exact Nat.eq_of_beq_eq_true (ft_all_at H b hb)
end
section
/- the component's own methods, each against its picture -/
theorem ft_z0 : nI 0 ≤ 0 := by decide
theorem fx_base {q p k h : Nat} (hQ : ft_Q q p k h) {post : Int32 → Prop} (hp : post (nI p)) : wpX_base post (nI q) := by
  rcases hQ with ⟨rfl, rfl, rfl, rfl⟩ | ⟨rfl, rfl, rfl, rfl⟩
  · exact br_f (by decide) hp
  · exact br_t rfl hp
theorem fx_deg {q p k h : Nat} (hQ : ft_Q q p k h) {post : Int32 → Prop} (hp : post (nI k)) : wpX_degree post (nI q) := by
  rcases hQ with ⟨rfl, rfl, rfl, rfl⟩ | ⟨rfl, rfl, rfl, rfl⟩
  · exact br_f (by decide) hp
  · exact br_t rfl hp
theorem fx_sum_l {q p k h : Nat} (hQ : ft_Q q p k h) {a b : Nat} (ha : a < 1000) (hb : b < 1000) {post : Int32 → Prop} (hp : post (nI (ft_S p a b k))) (z : Int32) : ∀ d i, i + d = k → ∀ n, d < n → wX_sum_26 post (nI p) (nI k) z n (nI (a / p ^ i)) (nI (b / p ^ i)) (nI (p ^ i)) (nI (ft_S p a b i)) (nI i) := by
  have hB := ft_Q_b hQ
  intro d
  induction d with
  | zero =>
    intro i hi n hn
    obtain ⟨m, rfl⟩ : ∃ m, n = m + 1 := ⟨n - 1, by omega⟩
    obtain rfl : i = k := by omega
    exact br_t (nI_le (Nat.le_refl _) (by omega)) hp
  | succ d ih =>
    intro i hi n hn
    obtain ⟨m, rfl⟩ : ∃ m, n = m + 1 := ⟨n - 1, by omega⟩
    have p0 : 0 < p := by omega
    have p31 : p < 2 ^ 31 := by omega
    have hp0 : ¬ nI p = 0 := nI_ne0 p0 p31
    have h1 : a / p ^ i < 2 ^ 31 := Nat.lt_of_le_of_lt (Nat.div_le_self _ _) (by omega)
    have h2 : b / p ^ i < 2 ^ 31 := Nat.lt_of_le_of_lt (Nat.div_le_self _ _) (by omega)
    have m1 : a / p ^ i % p < p := Nat.mod_lt _ p0
    have m2 : b / p ^ i % p < p := Nat.mod_lt _ p0
    have h3 : a / p ^ i % p + b / p ^ i % p < 2 ^ 31 := by omega
    refine br_f (nI_ge (by omega) (by omega)) ⟨hp0, hp0, hp0, nm_r (e' := nI (ft_S p a b (i + 1))) ?_ ⟨hp0, nm_r (e' := nI (a / p ^ (i + 1))) ?_ ⟨hp0, nm_r (e' := nI (b / p ^ (i + 1))) ?_ (nm_r (e' := nI (p ^ (i + 1))) ?_ (nm_r (nI_1 i) (ih (i + 1) (by omega) m (by omega))))⟩⟩⟩
    · rw [pk_rem h1 p0 p31, pk_rem h2 p0 p31, nI_add, pk_rem h3 p0 p31, pk_mul, nI_add]
      rfl
    · rw [pk_div h1 p0 p31, Nat.div_div_eq_div_mul, Nat.pow_succ]
    · rw [pk_div h2 p0 p31, Nat.div_div_eq_div_mul, Nat.pow_succ]
    · rw [pk_mul, Nat.pow_succ]
theorem fx_sum {q p k h : Nat} (hQ : ft_Q q p k h) {a b : Nat} (ha : a < 1000) (hb : b < 1000) {post : Int32 → Prop} (hp : post (nI (ft_S p a b k))) : wpX_sum post (nI q) (nI a) (nI b) := by
  have e := fx_sum_l hQ ha hb hp (nI q) k 0 (by omega) (k + 1) (by omega)
  rw [Nat.pow_zero, Nat.div_one, Nat.div_one] at e
  unfold wpX_sum
  exact fx_base hQ (fx_deg hQ ⟨k + 1, e⟩)
theorem fx_p50 {q p k h : Nat} (hQ : ft_Q q p k h) {s y i : Nat} (hs : s < q) (hy : y < 1000) {post : Int32 → Prop} {J : Int32 → Int32 → Int32 → Int32 → Prop} : ∀ c t n, t < q → c < 3 → c < n → J (nI (ft_t p k h s)) (nI (y / p)) (nI (ft_an p k s t c)) (nI (i + 1)) → wX_product_50 post J (nI p) (nI k) (nI h) (nI s) (nI y) (nI i) (nI q) n (nI t) (nI c) := by
  have hB := ft_Q_b hQ
  have p0 : 0 < p := by omega
  have p31 : p < 2 ^ 31 := by omega
  have h0 : 0 < h := by omega
  have h31 : h < 2 ^ 31 := by omega
  have s31 : s < 2 ^ 31 := by omega
  have y31 : y < 2 ^ 31 := by omega
  intro c
  induction c with
  | zero =>
    intro t n ht _ hn hJ
    obtain ⟨m, rfl⟩ : ∃ m, n = m + 1 := ⟨n - 1, by omega⟩
    have e1 : (nI s - nI s / nI h * nI h) * nI p = nI (s % h * p) := by rw [pk_rem s31 h0 h31, pk_mul]
    have e2 : nI (s / h) * (nI p + 1) = nI (s / h * (p + 1)) := by rw [nI_1, pk_mul]
    have b1 : s % h * p < 1000 ∧ s / h * (p + 1) < 1000 := by
      rcases hQ with ⟨rfl, rfl, rfl, rfl⟩ | ⟨rfl, rfl, rfl, rfl⟩ <;> omega
    refine br_t ft_z0 ⟨nI_ne0 p0 p31, nm_r (pk_div y31 p0 p31) ⟨nI_ne0 h0 h31, nm_r (pk_div s31 h0 h31) ⟨nI_ne0 h0 h31, ?_⟩⟩⟩
    rw [e1, e2]
    exact fx_sum hQ b1.1 b1.2 (nm_r (nI_1 i) hJ)
  | succ c ih =>
    intro t n ht hc hn hJ
    obtain ⟨m, rfl⟩ : ∃ m, n = m + 1 := ⟨n - 1, by omega⟩
    refine br_f (nI_nle (by omega) (by omega)) (fx_sum hQ (by omega) (by omega) (nm_r (pk_m1 c) (ih _ m (ft_S_q hQ _ _) (by omega) (by omega) ?_)))
    rw [ft_an_t]
    exact hJ
theorem fx_p37 {q p k h : Nat} (hQ : ft_Q q p k h) {a b : Nat} (ha : a < q) (hb : b < q) {post : Int32 → Prop} (hp : post (nI (ft_tot p k h a b k))) : ∀ d i, i + d = k → ∀ n, d < n → wX_product_37 post (nI p) (nI k) (nI h) (nI q) n (nI (ft_sh p k h a i)) (nI (b / p ^ i)) (nI (ft_tot p k h a b i)) (nI i) := by
  have hB := ft_Q_b hQ
  have p0 : 0 < p := by omega
  have p31 : p < 2 ^ 31 := by omega
  intro d
  induction d with
  | zero =>
    intro i hi n hn
    obtain ⟨m, rfl⟩ : ∃ m, n = m + 1 := ⟨n - 1, by omega⟩
    obtain rfl : i = k := by omega
    exact br_t (nI_le (Nat.le_refl _) (by omega)) hp
  | succ d ih =>
    intro i hi n hn
    obtain ⟨m, rfl⟩ : ∃ m, n = m + 1 := ⟨n - 1, by omega⟩
    have h1 : b / p ^ i ≤ b := Nat.div_le_self _ _
    have m1 : b / p ^ i % p < p := Nat.mod_lt _ p0
    have e : b / p ^ (i + 1) = b / p ^ i / p := by rw [Nat.div_div_eq_div_mul, Nat.pow_succ]
    have j := ih (i + 1) (by omega) m (by omega)
    rw [e] at j
    exact br_f (nI_ge (by omega) (by omega)) ⟨nI_ne0 p0 p31, nm_r (pk_rem (by omega) p0 p31) ⟨_, fx_p50 hQ (ft_sh_q hQ ha i) (by omega) _ _ _ (ft_tot_q hQ a b i) (by omega) (Nat.lt_succ_self _) j⟩⟩
theorem fx_product {q p k h : Nat} (hQ : ft_Q q p k h) {a b : Nat} (ha : a < q) (hb : b < q) {post : Int32 → Prop} (hp : post (nI (ft_ml q a b))) : wpX_product post (nI q) (nI a) (nI b) := by
  have H : ∃ n, wX_product_37 post (nI p) (nI k) (nI h) (nI q) n (nI a) (nI b) 0 0 := by
    have e := fx_p37 hQ ha hb (post := post) (by rw [ft_xM hQ ha hb]; exact hp) k 0 (by omega) (k + 1) (by omega)
    rw [Nat.pow_zero, Nat.div_one] at e
    exact ⟨k + 1, e⟩
  unfold wpX_product
  refine fx_base hQ (fx_deg hQ ?_)
  rcases hQ with ⟨rfl, rfl, rfl, rfl⟩ | ⟨rfl, rfl, rfl, rfl⟩
  · exact br_f (by decide) H
  · exact br_t rfl H
theorem ft_shr {n i : Nat} (hn : n < 2 ^ 20) (hi : i < 20) : nI n >>> (nI i &&& 31) = nI (n / 2 ^ i) := pk_shrN (by omega) _ i (s_l i (by omega))
theorem ft_bit {m : Nat} (hm : m < 2 ^ 20) : nI m &&& 1 = nI (m % 2) := pk_andN (by omega) 1 (by decide)
theorem fx_raise_l {q p k h : Nat} (hQ : ft_Q q p k h) {a n : Nat} (ha : a < q) (hn : n < 2 ^ 20) {post : Int32 → Prop} (hp : post (nI (ft_pw q a n))) : ∀ d i, i + d = 20 → ∀ m, d < m → wX_raise_8 post (nI n) (nI q) m (nI (ft_rr q a n i)) (nI (ft_sq q a i)) (nI i) := by
  have hB := ft_Q_b hQ
  intro d
  induction d with
  | zero =>
    intro i hi m hm
    obtain ⟨m, rfl⟩ : ∃ x, m = x + 1 := ⟨m - 1, by omega⟩
    obtain rfl : i = 20 := by omega
    exact br_t (nI_le (Nat.le_refl 20) (by omega)) hp
  | succ d ih =>
    intro i hi m hm
    obtain ⟨m, rfl⟩ : ∃ x, m = x + 1 := ⟨m - 1, by omega⟩
    have hs := ft_shr hn (show i < 20 by omega)
    have hd : n / 2 ^ i ≤ n := Nat.div_le_self _ _
    have hm2 : n / 2 ^ i % 2 < 2 := Nat.mod_lt _ (by decide)
    have J := ih (i + 1) (by omega) m (by omega)
    have S := ft_sq_q hQ ha i
    refine br_f (nI_ge (a := i) (b := 20) (by omega) (by omega)) ?_
    rw [hs]
    by_cases z : n / 2 ^ i = 0
    · have w := ft_rr_z (q := q) (a := a) z (d + 1)
      rw [hi] at w
      rw [z]
      refine br_t ft_z0 ?_
      rw [← w]
      exact hp
    · refine br_f (nI_nle (Nat.pos_of_ne_zero z) (by omega)) ?_
      rw [ft_bit (by omega)]
      by_cases c : n / 2 ^ i % 2 = 1
      · rw [ft_rr_1 c] at J
        rw [c]
        exact br_t rfl (fx_product hQ (ft_rr_q hQ ha n i) S (fx_product hQ S S (nm_r (nI_1 i) J)))
      · rw [ft_rr_0 c] at J
        have c0 : n / 2 ^ i % 2 = 0 := by omega
        rw [c0]
        exact br_f (by decide) (fx_product hQ S S (nm_r (nI_1 i) J))
theorem fx_raise {q p k h : Nat} (hQ : ft_Q q p k h) {a n : Nat} (ha : a < q) (hn : n < 2 ^ 20) {post : Int32 → Prop} (hp : post (nI (ft_pw q a n))) : wpX_raise post (nI q) (nI a) (nI n) :=
  ⟨21, fx_raise_l hQ ha hn hp 20 0 rfl 21 (by omega)⟩
end
section
/- the reference's own methods, each against its picture -/
theorem fy_unit_l {p j : Nat} (hj : j ≤ 12) {post : Int32 → Prop} (hp : post (nI (p ^ j))) (vq vk : Int32) (D : Nat → Int32) : ∀ d i, i + d = j → ∀ n, d < n → wY_unit_4 post (nI j) vq (nI p) vk D n (nI (p ^ i)) (nI i) := by
  intro d
  induction d with
  | zero =>
    intro i hi n hn
    obtain ⟨m, rfl⟩ : ∃ m, n = m + 1 := ⟨n - 1, by omega⟩
    obtain rfl : i = j := by omega
    exact br_t (nI_le (Nat.le_refl _) (by omega)) hp
  | succ d ih =>
    intro i hi n hn
    obtain ⟨m, rfl⟩ : ∃ m, n = m + 1 := ⟨n - 1, by omega⟩
    have e : nI (p ^ i) * nI p = nI (p ^ (i + 1)) := by rw [pk_mul, Nat.pow_succ]
    exact br_f (nI_ge (by omega) (by omega)) (nm_r e (nm_r (nI_1 i) (ih (i + 1) (by omega) m (by omega))))
theorem fy_unit {p j : Nat} (hj : j ≤ 12) {post : Int32 → Prop} (hp : post (nI (p ^ j))) {vq vk : Int32} {D : Nat → Int32} : wpY_unit post (vq, nI p, vk, D) (nI j) := by
  have e := fy_unit_l hj hp vq vk D j 0 (by omega) (j + 1) (by omega)
  rw [Nat.pow_zero] at e
  exact ⟨j + 1, e⟩
theorem fy_coef {q p k h : Nat} (hQ : ft_Q q p k h) {a i : Nat} (ha : a < 1000) (hi : i ≤ k) {post : Int32 → Prop} (hp : post (nI (a / p ^ i % p))) {vq vk : Int32} {D : Nat → Int32} : wpY_coefficient post (vq, nI p, vk, D) (nI a) (nI i) := by
  have hB := ft_Q_b hQ
  have hI := ft_Q_pi hQ hi
  have p0 : 0 < p := by omega
  have p31 : p < 2 ^ 31 := by omega
  have i0 : 0 < p ^ i := by omega
  have i31 : p ^ i < 2 ^ 31 := by omega
  have h1 : a / p ^ i ≤ a := Nat.div_le_self _ _
  unfold wpY_coefficient
  dsimp only
  refine fy_unit (by omega) (br_f (nI_nle p0 p31) (br_f (nI_nle i0 i31) ⟨nI_ne0 i0 i31, nI_ne0 p0 p31, ?_⟩))
  rw [pk_div (by omega) i0 i31, pk_rem (by omega) p0 p31]
  exact hp
theorem fy_sum_l {q p k h : Nat} (hQ : ft_Q q p k h) {a b : Nat} (ha : a < 1000) (hb : b < 1000) {post : Int32 → Prop} (hp : post (nI (ft_S p a b k))) (vq : Int32) (D : Nat → Int32) : ∀ d i, i + d = k → ∀ n, d < n → wY_sum_5 post (nI a) (nI b) vq (nI p) (nI k) D n (nI (ft_S p a b i)) (nI i) := by
  have hB := ft_Q_b hQ
  intro d
  induction d with
  | zero =>
    intro i hi n hn
    obtain ⟨m, rfl⟩ : ∃ m, n = m + 1 := ⟨n - 1, by omega⟩
    obtain rfl : i = k := by omega
    exact br_t (nI_le (Nat.le_refl _) (by omega)) hp
  | succ d ih =>
    intro i hi n hn
    obtain ⟨m, rfl⟩ : ∃ m, n = m + 1 := ⟨n - 1, by omega⟩
    have p0 : 0 < p := by omega
    have m1 : a / p ^ i % p < p := Nat.mod_lt _ p0
    have m2 : b / p ^ i % p < p := Nat.mod_lt _ p0
    have J := ih (i + 1) (by omega) m (by omega)
    rw [ft_S_s] at J
    have hik : i ≤ k := by omega
    refine br_f (nI_ge (by omega) (by omega)) (fy_coef hQ ha hik (fy_coef hQ hb hik (nm_r (nI_add _ _) ?_)))
    generalize a / p ^ i % p = x at *
    generalize b / p ^ i % p = y at *
    by_cases c : x + y < p
    · rw [Nat.mod_eq_of_lt c] at J
      refine br_t (nI_lt c (by omega)) (fy_unit (by omega) (nm_r ?_ (nm_r (nI_1 i) J)))
      rw [pk_mul, nI_add]
    · have c1 : p ≤ x + y := by omega
      rw [Nat.mod_eq_sub_mod c1, Nat.mod_eq_of_lt (show x + y - p < p by omega)] at J
      refine br_f (nI_nlt c1 (by omega)) (fy_unit (by omega) (nm_r ?_ (nm_r (nI_1 i) J)))
      rw [pk_sub c1, pk_mul, nI_add]
theorem fy_sum {q p k h : Nat} (hQ : ft_Q q p k h) {a b : Nat} (ha : a < 1000) (hb : b < 1000) {post : Int32 → Prop} (hp : post (nI (ft_S p a b k))) {vq : Int32} {D : Nat → Int32} : wpY_sum post (vq, nI p, nI k, D) (nI a) (nI b) :=
  ⟨k + 1, fy_sum_l hQ ha hb hp vq D k 0 (by omega) (k + 1) (by omega)⟩
theorem fy_put {q p k h : Nat} (hQ : ft_Q q p k h) {i v : Nat} (hi : i < 12) (hv : v < 2 ^ 31) {vq vk : Int32} {D : Nat → Int32} {post : SY → Prop} (hp : post (vq, nI p, vk, upd D i (nI (v % p)))) : wpY_put post (vq, nI p, vk, D) (nI i) (nI v) := by
  have ec : (nI i).toNatClampNeg = i := nI_clamp (by omega)
  have hin : vp_in (nI i) 12 := vp_in_nI hi (by omega)
  rcases hQ with ⟨rfl, rfl, rfl, rfl⟩ | ⟨rfl, rfl, rfl, rfl⟩
  · have e : nI v - nI v / 2 * 2 = nI (v % 2) := pk_rem (d := 2) hv (by decide) (by decide)
    refine br_t rfl ⟨by decide, hin, nm_r ?_ hp⟩
    rw [ec, e]
  · have e : nI v - nI v / 3 * 3 = nI (v % 3) := pk_rem (d := 3) hv (by decide) (by decide)
    refine br_f (by decide) ⟨by decide, hin, nm_r ?_ hp⟩
    rw [ec, e]
theorem fy_times {q p k h : Nat} (hQ : ft_Q q p k h) {a b i j : Nat} (ha : a < 1000) (hb : b < 1000) (hi : i ≤ k) (hj : j ≤ k) {post : Int32 → Prop} (hp : post (nI (a / p ^ i % p * (b / p ^ j % p)))) {vq vk : Int32} {D : Nat → Int32} : wpY_timesAt post (vq, nI p, vk, D) (nI a) (nI b) (nI i) (nI j) := by
  unfold wpY_timesAt
  dsimp only
  refine fy_coef hQ ha hi (fy_coef hQ hb hj ?_)
  rw [pk_mul]
  exact hp
theorem fy_p175 {q p k h : Nat} (hQ : ft_Q q p k h) {E : Nat → Nat} {vq : Int32} {D : Nat → Int32} (hD : ∀ m, m < 12 → D m = nI (E m)) {post : Int32 → SY → Prop} (hp : post (nI (ft_v p E k)) (vq, nI p, nI k, D)) : ∀ d i, i + d = k → ∀ n, d < n → wY_product_175 post vq (nI p) (nI k) D n (nI (ft_v p E i)) (nI i) := by
  have hB := ft_Q_b hQ
  intro d
  induction d with
  | zero =>
    intro i hi n hn
    obtain ⟨m, rfl⟩ : ∃ m, n = m + 1 := ⟨n - 1, by omega⟩
    obtain rfl : i = k := by omega
    exact br_t (nI_le (Nat.le_refl _) (by omega)) hp
  | succ d ih =>
    intro i hi n hn
    obtain ⟨m, rfl⟩ : ∃ m, n = m + 1 := ⟨n - 1, by omega⟩
    have J := ih (i + 1) (by omega) m (by omega)
    refine br_f (nI_ge (by omega) (by omega)) ⟨vp_in_nI (by omega) (by omega), fy_unit (by omega) (nm_r (e' := nI (ft_v p E (i + 1))) ?_ (nm_r (nI_1 i) J))⟩
    rw [nI_clamp (by omega), hD i (by omega), pk_mul, nI_add]
    rfl
theorem fy_p89 {q p k h : Nat} (hQ : ft_Q q p k h) {vq : Int32} {E0 : Nat → Nat} {post : Int32 → SY → Prop} (hp : ∀ D, post (nI (ft_v p (ft_rd p k E0 (12 - k)) k)) (vq, nI p, nI k, D)) : ∀ d x, x + 1 = k + d → x ≤ 11 → ∀ n, d < n → ∀ (D : Nat → Int32) (E : Nat → Nat), (∀ m, m < 12 → D m = nI (E m) ∧ E m < p) → E = ft_rd p k E0 (11 - x) → wY_product_89 post n (nI x) vq (nI p) (nI k) D := by
  have hB := ft_Q_b hQ
  intro d
  induction d with
  | zero =>
    intro x hx hx1 n hn D E hD hE
    obtain ⟨m, rfl⟩ : ∃ m, n = m + 1 := ⟨n - 1, by omega⟩
    have e : 11 - x = 12 - k := by omega
    rw [e] at hE
    refine br_t (nI_lt (by omega) (by omega)) ⟨k + 1, fy_p175 hQ (E := E) (fun m hm => (hD m hm).1) ?_ k 0 (by omega) (k + 1) (by omega)⟩
    rw [hE]
    exact hp D
  | succ d ih =>
    intro x hx hx1 n hn D E hD hE
    obtain ⟨m, rfl⟩ : ∃ m, n = m + 1 := ⟨n - 1, by omega⟩
    have s : nI x - nI k = nI (x - k) := pk_sub (by omega)
    have cx : (nI x).toNatClampNeg = x := nI_clamp (by omega)
    have c0 : (nI (x - k)).toNatClampNeg = x - k := nI_clamp (by omega)
    have c1 : (nI (x - k + 1)).toNatClampNeg = x - k + 1 := nI_clamp (by omega)
    have hx0 := hD x (by omega)
    have h0 := hD (x - k) (by omega)
    have h1 := hD (x - k + 1) (by omega)
    have ix : vp_in (nI x) 12 := vp_in_nI (by omega) (by omega)
    have dn : nI x + (-1) = nI (x - 1) := by
      obtain ⟨y, rfl⟩ : ∃ y, x = y + 1 := ⟨x - 1, by omega⟩
      exact pk_m1 y
    refine br_f (nI_nlt (by omega) (by omega)) ?_
    rw [s, c0, cx, h0.1, hx0.1, nI_add (E (x - k)) (E x)]
    refine ⟨vp_in_nI (by omega) (by omega), ix, fy_put hQ (by omega) (by omega) ?_⟩
    dsimp only
    rw [s, nI_1 (x - k), c1, pk_un (show x - k + 1 ≠ x - k by omega), pk_un (show x ≠ x - k by omega), h1.1, hx0.1, nI_add (E (x - k + 1)) (E x)]
    refine ⟨vp_in_nI (by omega) (by omega), ix, fy_put hQ (by omega) (by omega) ?_⟩
    dsimp only
    refine ⟨ix, nm_e (nm_r dn (ih (x - 1) (by omega) (by omega) m (by omega) _ (ft_rs p k x E) ?_ ?_))⟩
    · intro j hj
      rw [ft_rs_at]
      by_cases j1 : j = x
      · rw [if_pos j1, j1, pk_us]
        exact ⟨rfl, by omega⟩
      · rw [if_neg j1, pk_un j1]
        by_cases j2 : j = x - k + 1
        · rw [if_pos j2, j2, pk_us]
          exact ⟨rfl, Nat.mod_lt _ (by omega)⟩
        · rw [if_neg j2, pk_un j2]
          by_cases j3 : j = x - k
          · rw [if_pos j3, j3, pk_us]
            exact ⟨rfl, Nat.mod_lt _ (by omega)⟩
          · rw [if_neg j3, pk_un j3]
            exact hD j hj
    · have e1 : 11 - (x - 1) = (11 - x) + 1 := by omega
      have e2 : 11 - (11 - x) = x := by omega
      rw [e1, ft_rd_s, e2, ← hE]
theorem fy_p34 {q p k h : Nat} (hQ : ft_Q q p k h) {a b i : Nat} (ha : a < 1000) (hb : b < 1000) (hi : i < k) {vq : Int32} {post : Int32 → SY → Prop} {J : Int32 → Int32 → Int32 → Int32 → (Nat → Int32) → Prop} (hJ : ∀ D : Nat → Int32, (∀ m, m < 12 → D m = nI (ft_cv p k a b m (i + 1) % p)) → J (nI (i + 1)) vq (nI p) (nI k) D) : ∀ d j, j + d = k → ∀ n, d < n → ∀ D : Nat → Int32, (∀ m, m < 12 → D m = nI ((ft_cv p k a b m i + ft_pt p j a b i m) % p)) → wY_product_34 post J (nI a) (nI b) (nI i) n (nI j) vq (nI p) (nI k) D := by
  have hB := ft_Q_b hQ
  have p0 : 0 < p := by omega
  intro d
  induction d with
  | zero =>
    intro j hj n hn D hD
    obtain ⟨m, rfl⟩ : ∃ m, n = m + 1 := ⟨n - 1, by omega⟩
    obtain rfl : j = k := by omega
    exact br_t (nI_le (Nat.le_refl _) (by omega)) (nm_r (nI_1 i) (hJ D hD))
  | succ d ih =>
    intro j hj n hn D hD
    obtain ⟨m, rfl⟩ : ∃ m, n = m + 1 := ⟨n - 1, by omega⟩
    refine br_f (nI_ge (by omega) (by omega)) (fy_times hQ ha hb (by omega) (by omega) ?_)
    have m1 : a / p ^ i % p < p := Nat.mod_lt _ p0
    have m2 : b / p ^ j % p < p := Nat.mod_lt _ p0
    have m3 : a / p ^ i % p * (b / p ^ j % p) < 9 := by
      have : a / p ^ i % p * (b / p ^ j % p) ≤ 2 * 2 := Nat.mul_le_mul (by omega) (by omega)
      omega
    have m4 : (ft_cv p k a b (i + j) i + ft_pt p j a b i (i + j)) % p < p := Nat.mod_lt _ p0
    rw [nI_add i j, nI_clamp (by omega), hD (i + j) (by omega), nI_add]
    refine ⟨vp_in_nI (by omega) (by omega), fy_put hQ (by omega) (by omega) ?_⟩
    dsimp only
    refine nm_r (nI_1 j) (ih (j + 1) (by omega) m (by omega) _ ?_)
    intro l hl
    by_cases e : l = i + j
    · rw [e, pk_us, ft_pt_f (k := j) (show ¬ (i ≤ i + j ∧ i + j - i < j) by omega), ft_pt_t (k := j + 1) (show i ≤ i + j ∧ i + j - i < j + 1 by omega), Nat.add_sub_cancel_left, Nat.add_zero, Nat.mod_add_mod]
    · rw [pk_un e, hD l hl, ft_pt_n e]
theorem fy_p23 {q p k h : Nat} (hQ : ft_Q q p k h) {a b : Nat} (ha : a < 1000) (hb : b < 1000) {vq : Int32} {post : Int32 → SY → Prop} (hF : ∀ D : Nat → Int32, (∀ m, m < 12 → D m = nI (ft_cv p k a b m k % p)) → ∃ n, wY_product_89 post n 11 vq (nI p) (nI k) D) : ∀ d i, i + d = k → ∀ n, d < n → ∀ D : Nat → Int32, (∀ m, m < 12 → D m = nI (ft_cv p k a b m i % p)) → wY_product_23 post (nI a) (nI b) n (nI i) vq (nI p) (nI k) D := by
  have hB := ft_Q_b hQ
  intro d
  induction d with
  | zero =>
    intro i hi n hn D hD
    obtain ⟨m, rfl⟩ : ∃ m, n = m + 1 := ⟨n - 1, by omega⟩
    obtain rfl : i = k := by omega
    exact br_t (nI_le (Nat.le_refl _) (by omega)) (hF D hD)
  | succ d ih =>
    intro i hi n hn D hD
    obtain ⟨m, rfl⟩ : ∃ m, n = m + 1 := ⟨n - 1, by omega⟩
    refine br_f (nI_ge (by omega) (by omega)) ⟨k + 1, fy_p34 hQ ha hb (by omega) (fun D' h' => ih (i + 1) (by omega) m (by omega) D' h') k 0 (by omega) (k + 1) (by omega) D ?_⟩
    intro l hl
    rw [hD l hl, ft_pt_f (k := 0) (by omega), Nat.add_zero]
theorem fy_p2 {q p k h : Nat} (_hQ : ft_Q q p k h) {a b : Nat} {vq : Int32} {post : Int32 → SY → Prop} (hG : ∀ D : Nat → Int32, (∀ m, m < 12 → D m = 0) → ∃ n, wY_product_23 post (nI a) (nI b) n 0 vq (nI p) (nI k) D) : ∀ d i, i + d = 12 → ∀ n, d < n → ∀ D : Nat → Int32, (∀ m, m < i → D m = 0) → wY_product_2 post (nI a) (nI b) vq (nI p) (nI k) n (nI i) D := by
  intro d
  induction d with
  | zero =>
    intro i hi n hn D hD
    obtain ⟨m, rfl⟩ : ∃ m, n = m + 1 := ⟨n - 1, by omega⟩
    obtain rfl : i = 12 := by omega
    exact br_t (nI_le (Nat.le_refl 12) (by omega)) (hG D hD)
  | succ d ih =>
    intro i hi n hn D hD
    obtain ⟨m, rfl⟩ : ∃ m, n = m + 1 := ⟨n - 1, by omega⟩
    refine br_f (nI_ge (a := i) (b := 12) (by omega) (by omega)) ⟨vp_in_nI (by omega) (by omega), nm_e (nm_r (nI_1 i) (ih (i + 1) (by omega) m (by omega) _ ?_))⟩
    rw [nI_clamp (by omega)]
    intro l hl
    by_cases e : l = i
    · rw [e, pk_us]
    · rw [pk_un e]; exact hD l (by omega)
theorem fy_product {q p k h : Nat} (hQ : ft_Q q p k h) {a b : Nat} (ha : a < q) (hb : b < q) {vq : Int32} {D : Nat → Int32} {post : Int32 → SY → Prop} (hp : ∀ D', post (nI (ft_ml q a b)) (vq, nI p, nI k, D')) : wpY_product post (vq, nI p, nI k, D) (nI a) (nI b) := by
  have hB := ft_Q_b hQ
  have hp' : ∀ D', post (nI (ft_v p (ft_rd p k (ft_D p k a b) (12 - k)) k)) (vq, nI p, nI k, D') := by
    have e : ft_v p (ft_rd p k (ft_D p k a b) (12 - k)) k = ft_ml q a b := ft_yM_e hQ ha hb
    rw [e]
    exact hp
  refine ⟨13, fy_p2 hQ ?_ 12 0 rfl 13 (by omega) D (fun m hm => absurd hm (Nat.not_lt_zero m))⟩
  intro D1 h1
  refine ⟨k + 1, fy_p23 hQ (by omega) (by omega) ?_ k 0 (by omega) (k + 1) (by omega) D1 ?_⟩
  · intro D2 h2
    exact ⟨13 - k + 1, fy_p89 hQ hp' (12 - k) 11 (by omega) (by omega) (13 - k + 1) (by omega) D2 (ft_D p k a b) (fun m hm => ⟨h2 m hm, Nat.mod_lt _ (by omega)⟩) rfl⟩
  · intro m hm
    rw [h1 m hm]
    show (0 : Int32) = nI (0 % p)
    rw [Nat.zero_mod, nI_0]
theorem fy_raised_l {q p k h : Nat} (hQ : ft_Q q p k h) {a n : Nat} (ha : a < q) (hn : n < 2 ^ 20) {vq : Int32} {post : Int32 → SY → Prop} (hp : ∀ D', post (nI (ft_pw q a n)) (vq, nI p, nI k, D')) : ∀ d i, i + d = 20 → ∀ m, d < m → ∀ D : Nat → Int32, wY_raised_8 post (nI n) m (nI (ft_rr q a n i)) (nI (ft_sq q a i)) (nI i) vq (nI p) (nI k) D := by
  intro d
  induction d with
  | zero =>
    intro i hi m hm D
    obtain ⟨m, rfl⟩ : ∃ x, m = x + 1 := ⟨m - 1, by omega⟩
    obtain rfl : i = 20 := by omega
    exact br_t (nI_le (Nat.le_refl 20) (by omega)) (hp D)
  | succ d ih =>
    intro i hi m hm D
    obtain ⟨m, rfl⟩ : ∃ x, m = x + 1 := ⟨m - 1, by omega⟩
    have hs := ft_shr hn (show i < 20 by omega)
    have hd : n / 2 ^ i ≤ n := Nat.div_le_self _ _
    have hm2 : n / 2 ^ i % 2 < 2 := Nat.mod_lt _ (by decide)
    have J := ih (i + 1) (by omega) m (by omega)
    have S := ft_sq_q hQ ha i
    refine br_f (nI_ge (a := i) (b := 20) (by omega) (by omega)) ?_
    rw [hs, ft_bit (by omega)]
    by_cases c : n / 2 ^ i % 2 = 1
    · rw [ft_rr_1 c] at J
      rw [c]
      exact br_t rfl (fy_product hQ (ft_rr_q hQ ha n i) S (fun D1 => fy_product hQ S S (fun D2 => nm_r (nI_1 i) (J D2))))
    · rw [ft_rr_0 c] at J
      have c0 : n / 2 ^ i % 2 = 0 := by omega
      rw [c0]
      exact br_f (by decide) (fy_product hQ S S (fun D2 => nm_r (nI_1 i) (J D2)))
theorem fy_raised {q p k h : Nat} (hQ : ft_Q q p k h) {a n : Nat} (ha : a < q) (hn : n < 2 ^ 20) {vq : Int32} {D : Nat → Int32} {post : Int32 → SY → Prop} (hp : ∀ D', post (nI (ft_pw q a n)) (vq, nI p, nI k, D')) : wpY_raised post (vq, nI p, nI k, D) (nI a) (nI n) :=
  ⟨21, fy_raised_l hQ ha hn hp 20 0 rfl 21 (by omega) D⟩
end
section
/- guards, searches: both sides side by side -/
theorem ft_10 : ¬ (1 : Int32) = 0 := by decide
theorem ft_ix (x : Int32) {q : Nat} (hq : q < 2 ^ 31) : (x < 0 ∨ nI q ≤ x) ∨ ∃ a, a < q ∧ x = nI a := by
  rcases pk_ix x hq with h | h | h
  · exact Or.inl (Or.inl h)
  · exact Or.inl (Or.inr h)
  · exact Or.inr h
theorem fx_el_ok {q a : Nat} (hq : q < 2 ^ 31) (ha : a < q) {post : Int32 → Prop} (hp : post 1) : wpX_isElement post (nI q) (nI a) :=
  br_f (nI_pos (by omega)) (br_f (nI_ge ha hq) hp)
theorem fx_el_no {q : Nat} {x : Int32} (hx : x < 0 ∨ nI q ≤ x) {post : Int32 → Prop} (hp : post 0) : wpX_isElement post (nI q) x :=
  br_c (fun _ => hp) (fun hn => br_t (hx.resolve_left hn) hp)
theorem fx_un_ok {q a : Nat} (hq : q < 2 ^ 31) (ha : a < q) (h0 : 0 < a) {post : Int32 → Prop} (hp : post 1) : wpX_isUnit post (nI q) (nI a) :=
  br_f (nI_nle h0 (by omega)) (br_f (nI_ge ha hq) hp)
theorem fx_un_no {q : Nat} {x : Int32} (hx : x < 0 ∨ nI q ≤ x) {post : Int32 → Prop} (hp : post 0) : wpX_isUnit post (nI q) x :=
  br_c (fun _ => hp) (fun hn => br_t (hx.resolve_left (fun h => hn (Int32.le_of_lt h))) hp)
theorem fx_un_0 {q : Nat} {post : Int32 → Prop} (hp : post 0) : wpX_isUnit post (nI q) (nI 0) :=
  br_t ft_z0 hp
theorem fy_bad_ok {q a : Nat} (hq : q < 2 ^ 31) (ha : a < q) {vp vk : Int32} {D : Nat → Int32} {post : Int32 → Prop} (hp : post 0) : wpY_bad post (nI q, vp, vk, D) (nI a) :=
  br_f (nI_pos (by omega)) (br_t (nI_lt ha hq) hp)
theorem fy_bad_no {q : Nat} {x : Int32} (hx : x < 0 ∨ nI q ≤ x) {vp vk : Int32} {D : Nat → Int32} {post : Int32 → Prop} (hp : post 1) : wpY_bad post (nI q, vp, vk, D) x :=
  br_c (fun _ => hp) (fun hn => br_f (Int32.not_lt.mpr (hx.resolve_left hn)) hp)
/- invert: the search finds the power q - 2, and for 0 nothing -/
theorem fy_inv_l {q p k h : Nat} (hQ : ft_Q q p k h) {a : Nat} (ha : a < q) (h0 : 0 < a) {post : Int32 → SY → Prop} (hp : ∀ D', post (nI (ft_pw q a (q - 2))) (nI q, nI p, nI k, D')) : ∀ d i, i + d = ft_pw q a (q - 2) → ∀ n, d < n → ∀ D : Nat → Int32, wY_invert_12 post (nI a) n (nI i) (nI q) (nI p) (nI k) D := by
  have hB := ft_Q_b hQ
  have hP := ft_pw_q hQ ha (q - 2)
  intro d
  induction d with
  | zero =>
    intro i hi n hn D
    obtain ⟨m, rfl⟩ : ∃ m, n = m + 1 := ⟨n - 1, by omega⟩
    obtain rfl : i = ft_pw q a (q - 2) := by omega
    refine br_f (nI_ge hP (by omega)) (fy_product hQ ha hP (fun D' => br_t ?_ (hp D')))
    rw [ft_inv2 hQ ha h0]
    rfl
  | succ d ih =>
    intro i hi n hn D
    obtain ⟨m, rfl⟩ : ∃ m, n = m + 1 := ⟨n - 1, by omega⟩
    have hiq : i < q := by omega
    have hm := ft_ml_q hQ ha hiq
    have ne : ¬ nI (ft_ml q a i) = 1 := fun e => by
      have e1 := (nI_eq (b := 1) (by omega) (by omega)).mp e
      have e2 := ft_inv1 hQ ha hiq e1
      omega
    exact br_f (nI_ge hiq (by omega)) (fy_product hQ ha hiq (fun D' => br_f ne (nm_r (nI_1 i) (ih (i + 1) (by omega) m (by omega) D'))))
theorem fy_inv_0 {q p k h : Nat} (hQ : ft_Q q p k h) {post : Int32 → SY → Prop} (hp : ∀ D', post (-1) (nI q, nI p, nI k, D')) : ∀ d i, i + d = q → ∀ n, d < n → ∀ D : Nat → Int32, wY_invert_12 post (nI 0) n (nI i) (nI q) (nI p) (nI k) D := by
  have hB := ft_Q_b hQ
  intro d
  induction d with
  | zero =>
    intro i hi n hn D
    obtain ⟨m, rfl⟩ : ∃ m, n = m + 1 := ⟨n - 1, by omega⟩
    exact br_t (nI_le (by omega) (by omega)) (hp D)
  | succ d ih =>
    intro i hi n hn D
    obtain ⟨m, rfl⟩ : ∃ m, n = m + 1 := ⟨n - 1, by omega⟩
    have hiq : i < q := by omega
    have ne : ¬ nI (ft_ml q 0 i) = 1 := by
      rw [ft_nul hQ hiq]
      decide
    exact br_f (nI_ge hiq (by omega)) (fy_product hQ (by omega) hiq (fun D' => br_f ne (nm_r (nI_1 i) (ih (i + 1) (by omega) m (by omega) D'))))
/- order -/
theorem fo_order {q p k h : Nat} (hQ : ft_Q q p k h) {a : Nat} (ha : a < q) (h0 : 0 < a) : ∀ d i, i + d = q - 1 → ∃ r : Int32, (∀ post : Int32 → Prop, post r → ∀ n, d < n → wX_order_14 post (nI a) (nI q) n (nI (ft_it q a i)) (nI i)) ∧ (∀ post : Int32 → SY → Prop, (∀ D', post r (nI q, nI p, nI k, D')) → ∀ n, d < n → ∀ D : Nat → Int32, wY_order_18 post (nI a) n (nI (ft_it q a i)) (nI i) (nI q) (nI p) (nI k) D) := by
  have hB := ft_Q_b hQ
  intro d
  induction d with
  | zero =>
    intro i hi
    have e : ft_it q a i = 1 := by
      rw [show i = q - 1 by omega]
      exact ft_ord hQ ha h0
    refine ⟨nI i, ?_, ?_⟩
    · intro post hp n hn
      obtain ⟨m, rfl⟩ : ∃ m, n = m + 1 := ⟨n - 1, by omega⟩
      rw [e]
      exact br_t rfl hp
    · intro post hp n hn D
      obtain ⟨m, rfl⟩ : ∃ m, n = m + 1 := ⟨n - 1, by omega⟩
      rw [e]
      exact br_t rfl (hp D)
  | succ d ih =>
    intro i hi
    have hI := ft_it_q hQ ha i
    by_cases c : ft_it q a i = 1
    · refine ⟨nI i, ?_, ?_⟩
      · intro post hp n hn
        obtain ⟨m, rfl⟩ : ∃ m, n = m + 1 := ⟨n - 1, by omega⟩
        rw [c]
        exact br_t rfl hp
      · intro post hp n hn D
        obtain ⟨m, rfl⟩ : ∃ m, n = m + 1 := ⟨n - 1, by omega⟩
        rw [c]
        exact br_t rfl (hp D)
    · have ne : ¬ nI (ft_it q a i) = 1 := fun e => c ((nI_eq (b := 1) (by omega) (by omega)).mp e)
      obtain ⟨r, hX, hY⟩ := ih (i + 1) (by omega)
      refine ⟨r, ?_, ?_⟩
      · intro post hp n hn
        obtain ⟨m, rfl⟩ : ∃ m, n = m + 1 := ⟨n - 1, by omega⟩
        exact br_f ne (br_f (nI_ge (by omega) (by omega)) (fx_product hQ hI ha (nm_r (nI_1 i) (hX post hp m (by omega)))))
      · intro post hp n hn D
        obtain ⟨m, rfl⟩ : ∃ m, n = m + 1 := ⟨n - 1, by omega⟩
        exact br_f ne (br_f (nI_ge (a := i) (b := 100) (by omega) (by omega)) (fy_product hQ hI ha (fun D' => nm_r (nI_1 i) (hY post hp m (by omega) D'))))
/- root -/
theorem fo_root {q p k h : Nat} (hQ : ft_Q q p k h) {a : Nat} (ha : a < q) : ∀ d i, i + d = q → ∃ r : Int32, (∀ post : Int32 → Prop, post r → ∀ n, d < n → wX_root_12 post (nI a) (nI q) n (nI i)) ∧ (∀ post : Int32 → SY → Prop, (∀ D', post r (nI q, nI p, nI k, D')) → ∀ n, d < n → ∀ D : Nat → Int32, wY_root_12 post (nI a) n (nI i) (nI q) (nI p) (nI k) D) := by
  have hB := ft_Q_b hQ
  intro d
  induction d with
  | zero =>
    intro i hi
    refine ⟨-1, ?_, ?_⟩
    · intro post hp n hn
      obtain ⟨m, rfl⟩ : ∃ m, n = m + 1 := ⟨n - 1, by omega⟩
      exact br_t (nI_le (by omega) (by omega)) hp
    · intro post hp n hn D
      obtain ⟨m, rfl⟩ : ∃ m, n = m + 1 := ⟨n - 1, by omega⟩
      exact br_t (nI_le (by omega) (by omega)) (hp D)
  | succ d ih =>
    intro i hi
    have hiq : i < q := by omega
    have hM := ft_ml_q hQ hiq hiq
    by_cases c : ft_ml q i i = a
    · refine ⟨nI i, ?_, ?_⟩
      · intro post hp n hn
        obtain ⟨m, rfl⟩ : ∃ m, n = m + 1 := ⟨n - 1, by omega⟩
        exact br_f (nI_ge hiq (by omega)) (fx_product hQ hiq hiq (br_t (congrArg nI c) hp))
      · intro post hp n hn D
        obtain ⟨m, rfl⟩ : ∃ m, n = m + 1 := ⟨n - 1, by omega⟩
        exact br_f (nI_ge hiq (by omega)) (fy_product hQ hiq hiq (fun D' => br_t (congrArg nI c) (hp D')))
    · have ne : ¬ nI (ft_ml q i i) = nI a := fun e => c ((nI_eq (by omega) (by omega)).mp e)
      obtain ⟨r, hX, hY⟩ := ih (i + 1) (by omega)
      refine ⟨r, ?_, ?_⟩
      · intro post hp n hn
        obtain ⟨m, rfl⟩ : ∃ m, n = m + 1 := ⟨n - 1, by omega⟩
        exact br_f (nI_ge hiq (by omega)) (fx_product hQ hiq hiq (br_f ne (nm_r (nI_1 i) (hX post hp m (by omega)))))
      · intro post hp n hn D
        obtain ⟨m, rfl⟩ : ∃ m, n = m + 1 := ⟨n - 1, by omega⟩
        exact br_f (nI_ge hiq (by omega)) (fy_product hQ hiq hiq (fun D' => br_f ne (nm_r (nI_1 i) (hY post hp m (by omega) D'))))
/- roots -/
theorem fo_roots {q p k h : Nat} (hQ : ft_Q q p k h) {a e : Nat} (ha : a < q) (he : e < 2 ^ 20) : ∀ d i, i + d = q → ∀ c : Int32, ∃ r : Int32, (∀ post : Int32 → Prop, post r → ∀ n, d < n → wX_roots_26 post (nI a) (nI e) (nI q) n c (nI i)) ∧ (∀ post : Int32 → SY → Prop, (∀ D', post r (nI q, nI p, nI k, D')) → ∀ n, d < n → ∀ D : Nat → Int32, wY_roots_26 post (nI a) (nI e) n c (nI i) (nI q) (nI p) (nI k) D) := by
  have hB := ft_Q_b hQ
  intro d
  induction d with
  | zero =>
    intro i hi c
    refine ⟨c, ?_, ?_⟩
    · intro post hp n hn
      obtain ⟨m, rfl⟩ : ∃ m, n = m + 1 := ⟨n - 1, by omega⟩
      exact br_t (nI_le (by omega) (by omega)) hp
    · intro post hp n hn D
      obtain ⟨m, rfl⟩ : ∃ m, n = m + 1 := ⟨n - 1, by omega⟩
      exact br_t (nI_le (by omega) (by omega)) (hp D)
  | succ d ih =>
    intro i hi c
    have hiq : i < q := by omega
    have hM := ft_pw_q hQ hiq e
    by_cases w : ft_pw q i e = a
    · obtain ⟨r, hX, hY⟩ := ih (i + 1) (by omega) (c + 1)
      refine ⟨r, ?_, ?_⟩
      · intro post hp n hn
        obtain ⟨m, rfl⟩ : ∃ m, n = m + 1 := ⟨n - 1, by omega⟩
        exact br_f (nI_ge hiq (by omega)) (fx_raise hQ hiq he (br_t (congrArg nI w) (nm_e (nm_r (nI_1 i) (hX post hp m (by omega))))))
      · intro post hp n hn D
        obtain ⟨m, rfl⟩ : ∃ m, n = m + 1 := ⟨n - 1, by omega⟩
        exact br_f (nI_ge hiq (by omega)) (fy_raised hQ hiq he (fun D' => br_t (congrArg nI w) (nm_e (nm_r (nI_1 i) (hY post hp m (by omega) D')))))
    · have ne : ¬ nI (ft_pw q i e) = nI a := fun z => w ((nI_eq (by omega) (by omega)).mp z)
      obtain ⟨r, hX, hY⟩ := ih (i + 1) (by omega) c
      refine ⟨r, ?_, ?_⟩
      · intro post hp n hn
        obtain ⟨m, rfl⟩ : ∃ m, n = m + 1 := ⟨n - 1, by omega⟩
        exact br_f (nI_ge hiq (by omega)) (fx_raise hQ hiq he (br_f ne (nm_r (nI_1 i) (hX post hp m (by omega)))))
      · intro post hp n hn D
        obtain ⟨m, rfl⟩ : ∃ m, n = m + 1 := ⟨n - 1, by omega⟩
        exact br_f (nI_ge hiq (by omega)) (fy_raised hQ hiq he (fun D' => br_f ne (nm_r (nI_1 i) (hY post hp m (by omega) D'))))
/- the steps from s up to q -/
theorem fo_steps {q p k h : Nat} (hQ : ft_Q q p k h) (x : Int32) : ∃ t : Nat, t ≤ 6 ∧ (∀ post : Int32 → Prop, post (nI t) → wpX_stepsUpFrom post (nI q) x) ∧ (∀ (post : Int32 → Prop) (vp vk : Int32) (D : Nat → Int32), post (nI t) → wpY_steps post (nI q, vp, vk, D) x) ∧ (t ≠ 0 → ∃ s, s < 100 ∧ x = nI s) := by
  rcases hQ with ⟨rfl, rfl, rfl, rfl⟩ | ⟨rfl, rfl, rfl, rfl⟩
  · by_cases c1 : x = 64
    · subst c1
      exact ⟨1, by omega, fun post hp => br_t rfl hp, fun post vp vk D hp => br_t rfl (br_f (by decide) (br_f (by decide) (br_f (by decide) (br_t rfl hp)))), fun _ => ⟨64, by omega, rfl⟩⟩
    · have d1 : ¬ x = nI 64 := c1
      have d2 : ¬ nI 64 = 81 := by decide
      by_cases c2 : x = 2
      · exact ⟨6, by omega, fun post hp => br_f d1 (br_f d2 (br_t c2 hp)), fun post vp vk D hp => br_t rfl (br_t c2 hp), fun _ => ⟨2, by omega, c2⟩⟩
      · by_cases c3 : x = 4
        · exact ⟨3, by omega, fun post hp => br_f d1 (br_f d2 (br_f c2 (br_t c3 hp))), fun post vp vk D hp => br_t rfl (br_f c2 (br_t c3 hp)), fun _ => ⟨4, by omega, c3⟩⟩
        · by_cases c4 : x = 8
          · exact ⟨2, by omega, fun post hp => br_f d1 (br_f d2 (br_f c2 (br_f c3 (br_t c4 hp)))), fun post vp vk D hp => br_t rfl (br_f c2 (br_f c3 (br_t c4 hp))), fun _ => ⟨8, by omega, c4⟩⟩
          · exact ⟨0, by omega, fun post hp => br_f d1 (br_f d2 (br_f c2 (br_f c3 (br_f c4 hp)))), fun post vp vk D hp => br_t rfl (br_f c2 (br_f c3 (br_f c4 (br_f c1 hp)))), fun z => absurd rfl z⟩
  · have d3 : ¬ nI 81 = 64 := by decide
    by_cases c1 : x = 81
    · subst c1
      exact ⟨1, by omega, fun post hp => br_t rfl hp, fun post vp vk D hp => br_f d3 (br_f (by decide) (br_f (by decide) (br_t rfl hp))), fun _ => ⟨81, by omega, rfl⟩⟩
    · have d1 : ¬ x = nI 81 := c1
      by_cases c2 : x = 3
      · exact ⟨4, by omega, fun post hp => br_f d1 (br_t rfl (br_t c2 hp)), fun post vp vk D hp => br_f d3 (br_t c2 hp), fun _ => ⟨3, by omega, c2⟩⟩
      · by_cases c3 : x = 9
        · exact ⟨2, by omega, fun post hp => br_f d1 (br_t rfl (br_f c2 (br_t c3 hp))), fun post vp vk D hp => br_f d3 (br_f c2 (br_t c3 hp)), fun _ => ⟨9, by omega, c3⟩⟩
        · exact ⟨0, by omega, fun post hp => br_f d1 (br_t rfl (br_f c2 (br_f c3 hp))), fun post vp vk D hp => br_f d3 (br_f c2 (br_f c3 (br_f c1 hp))), fun z => absurd rfl z⟩
/- trace -/
theorem fo_trace {q p k h : Nat} (hQ : ft_Q q p k h) {s t : Nat} (hs : s < 2 ^ 20) (ht : t ≤ 6) (hY : ∀ (post : Int32 → Prop) (vp vk : Int32) (D : Nat → Int32), post (nI t) → wpY_steps post (nI q, vp, vk, D) (nI s)) : ∀ d i, i + d = t → ∀ x y, x < q → y < q → ∃ r : Int32, (∀ post : Int32 → Prop, post r → ∀ n, d < n → wX_trace_29 post (nI s) (nI t) (nI q) n (nI x) (nI y) (nI i)) ∧ (∀ post : Int32 → SY → Prop, (∀ D', post r (nI q, nI p, nI k, D')) → ∀ n, d < n → ∀ D : Nat → Int32, wY_trace_26 post (nI s) n (nI x) (nI y) (nI i) (nI q) (nI p) (nI k) D) := by
  have hB := ft_Q_b hQ
  intro d
  induction d with
  | zero =>
    intro i hi x y hx hy
    refine ⟨nI x, ?_, ?_⟩
    · intro post hp n hn
      obtain ⟨m, rfl⟩ : ∃ m, n = m + 1 := ⟨n - 1, by omega⟩
      exact br_t (nI_le (by omega) (by omega)) hp
    · intro post hp n hn D
      obtain ⟨m, rfl⟩ : ∃ m, n = m + 1 := ⟨n - 1, by omega⟩
      rw [wY_trace_26]
      refine hY _ _ _ _ ?_
      exact br_t (nI_le (by omega) (by omega)) (hp D)
  | succ d ih =>
    intro i hi x y hx hy
    obtain ⟨r, hX, hZ⟩ := ih (i + 1) (by omega) (ft_S p x y k) (ft_pw q y s) (ft_S_q hQ x y) (ft_pw_q hQ hy s)
    refine ⟨r, ?_, ?_⟩
    · intro post hp n hn
      obtain ⟨m, rfl⟩ : ∃ m, n = m + 1 := ⟨n - 1, by omega⟩
      exact br_f (nI_ge (by omega) (by omega)) (fx_sum hQ (by omega) (by omega) (fx_raise hQ hy hs (nm_r (nI_1 i) (hX post hp m (by omega)))))
    · intro post hp n hn D
      obtain ⟨m, rfl⟩ : ∃ m, n = m + 1 := ⟨n - 1, by omega⟩
      rw [wY_trace_26]
      refine hY _ _ _ _ ?_
      exact br_f (nI_ge (by omega) (by omega)) (fy_sum hQ (by omega) (by omega) (fy_raised hQ hy hs (fun D' => nm_r (nI_1 i) (hZ post hp m (by omega) D'))))
/- home -/
theorem fo_home {q p k h : Nat} (hQ : ft_Q q p k h) {a : Nat} (ha : a < q) : ∀ d i, i + d = q → ∃ r : Int32, (∀ post : Int32 → Prop, post r → ∀ n, d < n → wX_home_12 post (nI a) (nI q) n (nI i)) ∧ (∀ post : Int32 → SY → Prop, (∀ D', post r (nI q, nI p, nI k, D')) → ∀ n, d < n → ∀ D : Nat → Int32, wY_home_12 post (nI a) n (nI i) (nI q) (nI p) (nI k) D) := by
  have hB := ft_Q_b hQ
  intro d
  induction d with
  | zero =>
    intro i hi
    refine ⟨nI q, ?_, ?_⟩
    · intro post hp n hn
      obtain ⟨m, rfl⟩ : ∃ m, n = m + 1 := ⟨n - 1, by omega⟩
      exact br_t (nI_le (by omega) (by omega)) hp
    · intro post hp n hn D
      obtain ⟨m, rfl⟩ : ∃ m, n = m + 1 := ⟨n - 1, by omega⟩
      exact br_t (nI_le (by omega) (by omega)) (hp D)
  | succ d ih =>
    intro i hi
    have hiq : i < q := by omega
    have hM := ft_pw_q hQ ha i
    obtain ⟨t, ht, sX, sY, _⟩ := fo_steps hQ (nI i)
    obtain ⟨r, hX, hY⟩ := ih (i + 1) (by omega)
    by_cases z : t = 0
    · have z0 : nI t ≤ 0 := by rw [z]; exact ft_z0
      refine ⟨r, ?_, ?_⟩
      · intro post hp n hn
        obtain ⟨m, rfl⟩ : ∃ m, n = m + 1 := ⟨n - 1, by omega⟩
        exact br_f (nI_ge hiq (by omega)) (sX _ (br_t z0 (nm_r (nI_1 i) (hX post hp m (by omega)))))
      · intro post hp n hn D
        obtain ⟨m, rfl⟩ : ∃ m, n = m + 1 := ⟨n - 1, by omega⟩
        exact br_f (nI_ge hiq (by omega)) (sY _ _ _ _ (br_t z0 (nm_r (nI_1 i) (hY post hp m (by omega) D))))
    · have z0 : ¬ nI t ≤ 0 := nI_nle (by omega) (by omega)
      by_cases w : ft_pw q a i = a
      · refine ⟨nI i, ?_, ?_⟩
        · intro post hp n hn
          obtain ⟨m, rfl⟩ : ∃ m, n = m + 1 := ⟨n - 1, by omega⟩
          exact br_f (nI_ge hiq (by omega)) (sX _ (br_f z0 (fx_raise hQ ha (by omega) (br_t (congrArg nI w) hp))))
        · intro post hp n hn D
          obtain ⟨m, rfl⟩ : ∃ m, n = m + 1 := ⟨n - 1, by omega⟩
          exact br_f (nI_ge hiq (by omega)) (sY _ _ _ _ (br_f z0 (fy_raised hQ ha (by omega) (fun D' => br_t (congrArg nI w) (hp D')))))
      · have ne : ¬ nI (ft_pw q a i) = nI a := fun e => w ((nI_eq (by omega) (by omega)).mp e)
        refine ⟨r, ?_, ?_⟩
        · intro post hp n hn
          obtain ⟨m, rfl⟩ : ∃ m, n = m + 1 := ⟨n - 1, by omega⟩
          exact br_f (nI_ge hiq (by omega)) (sX _ (br_f z0 (fx_raise hQ ha (by omega) (br_f ne (nm_r (nI_1 i) (hX post hp m (by omega)))))))
        · intro post hp n hn D
          obtain ⟨m, rfl⟩ : ∃ m, n = m + 1 := ⟨n - 1, by omega⟩
          exact br_f (nI_ge hiq (by omega)) (sY _ _ _ _ (br_f z0 (fy_raised hQ ha (by omega) (fun D' => br_f ne (nm_r (nI_1 i) (hY post hp m (by omega) D'))))))
/- logarithm: the reference goes one step further, where the powers of g are back at 1 -/
theorem fo_log {q p k h : Nat} (hQ : ft_Q q p k h) {g a : Nat} (hg : g < q) (g0 : 0 < g) (ha : a < q) : ∀ d i, i + d = q - 1 → (i = 0 ∨ a ≠ 1) → ∃ r : Int32, (∀ post : Int32 → Prop, post r → ∀ n, d < n → wX_logarithm_23 post (nI g) (nI a) (nI q) n (nI (ft_it q g i)) (nI i)) ∧ (∀ post : Int32 → SY → Prop, (∀ D', post r (nI q, nI p, nI k, D')) → ∀ n, d + 1 < n → ∀ D : Nat → Int32, wY_logarithm_31 post (nI g) (nI a) n (nI (ft_it q g i)) (nI i) (nI q) (nI p) (nI k) D) := by
  have hB := ft_Q_b hQ
  have hq1 : nI q - 1 = nI (q - 1) := pk_sub (b := 1) (by omega)
  intro d
  induction d with
  | zero =>
    intro i hi h1
    have hI := ft_it_q hQ hg i
    have e : ft_it q g i = 1 := by
      rw [show i = q - 1 by omega]
      exact ft_ord hQ hg g0
    have ne : ¬ nI (ft_it q g i) = nI a := by
      rw [e]
      intro z
      have := (nI_eq (by omega) (by omega)).mp z
      omega
    refine ⟨-1, ?_, ?_⟩
    · intro post hp n hn
      obtain ⟨m, rfl⟩ : ∃ m, n = m + 1 := ⟨n - 1, by omega⟩
      refine br_t ?_ hp
      rw [hq1]
      exact nI_le (by omega) (by omega)
    · intro post hp n hn D
      obtain ⟨m, rfl⟩ : ∃ m, n = m + 2 := ⟨n - 2, by omega⟩
      exact br_f (nI_ge (by omega) (by omega)) (br_f ne (fy_product hQ hI hg (fun D' => nm_r (nI_1 i) (br_t (nI_le (by omega) (by omega)) (hp D')))))
  | succ d ih =>
    intro i hi h1
    have hI := ft_it_q hQ hg i
    have nX : ¬ nI q - 1 ≤ nI i := by
      rw [hq1]
      exact nI_ge (by omega) (by omega)
    by_cases c : ft_it q g i = a
    · refine ⟨nI i, ?_, ?_⟩
      · intro post hp n hn
        obtain ⟨m, rfl⟩ : ∃ m, n = m + 1 := ⟨n - 1, by omega⟩
        exact br_f nX (br_t (congrArg nI c) hp)
      · intro post hp n hn D
        obtain ⟨m, rfl⟩ : ∃ m, n = m + 1 := ⟨n - 1, by omega⟩
        exact br_f (nI_ge (by omega) (by omega)) (br_t (congrArg nI c) (hp D))
    · have ne : ¬ nI (ft_it q g i) = nI a := fun e => c ((nI_eq (by omega) (by omega)).mp e)
      have a1 : a ≠ 1 := by
        rcases h1 with h1 | h1
        · intro z
          apply c
          rw [h1, z]
          rfl
        · exact h1
      obtain ⟨r, hX, hY⟩ := ih (i + 1) (by omega) (Or.inr a1)
      refine ⟨r, ?_, ?_⟩
      · intro post hp n hn
        obtain ⟨m, rfl⟩ : ∃ m, n = m + 1 := ⟨n - 1, by omega⟩
        exact br_f nX (br_f ne (fx_product hQ hI hg (nm_r (nI_1 i) (hX post hp m (by omega)))))
      · intro post hp n hn D
        obtain ⟨m, rfl⟩ : ∃ m, n = m + 1 := ⟨n - 1, by omega⟩
        exact br_f (nI_ge (by omega) (by omega)) (br_f ne (fy_product hQ hI hg (fun D' => nm_r (nI_1 i) (hY post hp m (by omega) D'))))
end
section
/- what is owed -/
/-- both hold the same field: its size, and on the reference's side its base and degree; the digits are free -/
def i_Rel (_ : Nat) (u : SX) (v : SY) : Prop := ∃ (q p k h : Nat) (D : Nat → Int32), ft_Q q p k h ∧ u = nI q ∧ v = (nI q, nI p, nI k, D)
theorem i_up {k : Nat} {u : SX} {v : SY} (h : i_Rel k u v) : i_Rel (k + 3) u v := h
theorem i_vc0 : wpX_init (fun u => wpY_init (fun v => i_Rel 0 u v)) :=
  ⟨64, 2, 6, 32, fun _ => 0, Or.inl ⟨rfl, rfl, rfl, rfl⟩, rfl, rfl⟩
theorem i_vc_use {k : Nat} {u : SX} {v : SY} (I : i_Rel k u v) (hk : k + 3 ≤ 1536) (v1 : Int32) : wpX_use (fun r u' => wpY_use (fun r' v' => r' = r ∧ i_Rel (k + 3) u' v') v v1) u v1 := by
  obtain ⟨q, p, d, h, D, hQ, rfl, rfl⟩ := I
  by_cases c : v1 = 64
  · exact br_t c (br_t c (br_t c (br_t c ⟨rfl, 64, 2, 6, 32, D, Or.inl ⟨rfl, rfl, rfl, rfl⟩, c, by rw [c]; rfl⟩)))
  · by_cases c2 : v1 = 81
    · exact br_f c (br_t c2 (br_f c (br_t c2 (br_f c (br_f c ⟨rfl, 81, 3, 4, 27, D, Or.inr ⟨rfl, rfl, rfl, rfl⟩, c2, by rw [c2]; rfl⟩)))))
    · exact br_f c (br_f c2 (br_f c (br_f c2 ⟨rfl, q, p, d, h, D, hQ, rfl, rfl⟩)))
theorem i_vc_add {k : Nat} {u : SX} {v : SY} (I : i_Rel k u v) (hk : k + 3 ≤ 1536) (v1 : Int32) (v2 : Int32) : wpX_add (fun r => wpY_add (fun r' => r' = r ∧ i_Rel (k + 3) u v) v v1 v2) u v1 v2 := by
  obtain ⟨q, p, d, h, D, hQ, rfl, rfl⟩ := I
  have R : i_Rel (k + 3) (nI q) (nI q, nI p, nI d, D) := ⟨q, p, d, h, D, hQ, rfl, rfl⟩
  have hB := ft_Q_b hQ
  have q31 : q < 2 ^ 31 := by omega
  unfold wpX_add wpY_add
  dsimp only
  rcases ft_ix v1 q31 with h1 | ⟨a, ha, rfl⟩
  · exact fx_el_no h1 (br_t rfl (fy_bad_no h1 (br_f ft_10 ⟨rfl, R⟩)))
  · refine fx_el_ok q31 ha (br_f ft_10 ?_)
    rcases ft_ix v2 q31 with h2 | ⟨b, hb, rfl⟩
    · exact fx_el_no h2 (br_t rfl (fy_bad_ok q31 ha (br_t rfl (fy_bad_no h2 (br_f ft_10 ⟨rfl, R⟩)))))
    · exact fx_el_ok q31 hb (br_f ft_10 (fx_sum hQ (by omega) (by omega) (fy_bad_ok q31 ha (br_t rfl (fy_bad_ok q31 hb (br_t rfl (fy_sum hQ (by omega) (by omega) ⟨rfl, R⟩)))))))
theorem i_vc_multiply {k : Nat} {u : SX} {v : SY} (I : i_Rel k u v) (hk : k + 3 ≤ 1536) (v1 : Int32) (v2 : Int32) : wpX_multiply (fun r => wpY_multiply (fun r' v' => r' = r ∧ i_Rel (k + 3) u v') v v1 v2) u v1 v2 := by
  obtain ⟨q, p, d, h, D, hQ, rfl, rfl⟩ := I
  have R : ∀ D', i_Rel (k + 3) (nI q) (nI q, nI p, nI d, D') := fun D' => ⟨q, p, d, h, D', hQ, rfl, rfl⟩
  have hB := ft_Q_b hQ
  have q31 : q < 2 ^ 31 := by omega
  unfold wpX_multiply wpY_multiply
  dsimp only
  rcases ft_ix v1 q31 with h1 | ⟨a, ha, rfl⟩
  · exact fx_el_no h1 (br_t rfl (fy_bad_no h1 (br_f ft_10 ⟨rfl, R D⟩)))
  · refine fx_el_ok q31 ha (br_f ft_10 ?_)
    rcases ft_ix v2 q31 with h2 | ⟨b, hb, rfl⟩
    · exact fx_el_no h2 (br_t rfl (fy_bad_ok q31 ha (br_t rfl (fy_bad_no h2 (br_f ft_10 ⟨rfl, R D⟩)))))
    · exact fx_el_ok q31 hb (br_f ft_10 (fx_product hQ ha hb (fy_bad_ok q31 ha (br_t rfl (fy_bad_ok q31 hb (br_t rfl (fy_product hQ ha hb (fun D' => ⟨rfl, R D'⟩))))))))
theorem i_vc_invert {k : Nat} {u : SX} {v : SY} (I : i_Rel k u v) (hk : k + 3 ≤ 1536) (v1 : Int32) : wpX_invert (fun r => wpY_invert (fun r' v' => r' = r ∧ i_Rel (k + 3) u v') v v1) u v1 := by
  obtain ⟨q, p, d, h, D, hQ, rfl, rfl⟩ := I
  have R : ∀ D', i_Rel (k + 3) (nI q) (nI q, nI p, nI d, D') := fun D' => ⟨q, p, d, h, D', hQ, rfl, rfl⟩
  have hB := ft_Q_b hQ
  have q31 : q < 2 ^ 31 := by omega
  have e2 : nI q - 2 = nI (q - 2) := pk_sub (b := 2) (by omega)
  unfold wpX_invert wpY_invert
  dsimp only
  rcases ft_ix v1 q31 with h1 | ⟨a, ha, rfl⟩
  · exact fx_un_no h1 (br_t rfl (fy_bad_no h1 (br_f ft_10 ⟨rfl, R D⟩)))
  · by_cases a0 : a = 0
    · subst a0
      exact fx_un_0 (br_t rfl (fy_bad_ok q31 ha (br_t rfl ⟨q + 1, fy_inv_0 hQ (fun D' => ⟨rfl, R D'⟩) q 0 (by omega) (q + 1) (by omega) D⟩)))
    · refine fx_un_ok q31 ha (by omega) (br_f ft_10 ?_)
      rw [e2]
      exact fx_raise hQ ha (by omega) (fy_bad_ok q31 ha (br_t rfl ⟨_, fy_inv_l hQ ha (by omega) (fun D' => ⟨rfl, R D'⟩) (ft_pw q a (q - 2)) 0 (by omega) (ft_pw q a (q - 2) + 1) (by omega) D⟩))
theorem i_vc_power {k : Nat} {u : SX} {v : SY} (I : i_Rel k u v) (hk : k + 3 ≤ 1536) (v1 : Int32) (v2 : Int32) : wpX_power (fun r => wpY_power (fun r' v' => r' = r ∧ i_Rel (k + 3) u v') v v1 v2) u v1 v2 := by
  obtain ⟨q, p, d, h, D, hQ, rfl, rfl⟩ := I
  have R : ∀ D', i_Rel (k + 3) (nI q) (nI q, nI p, nI d, D') := fun D' => ⟨q, p, d, h, D', hQ, rfl, rfl⟩
  have hB := ft_Q_b hQ
  have q31 : q < 2 ^ 31 := by omega
  unfold wpX_power wpY_power
  dsimp only
  rcases ft_ix v1 q31 with h1 | ⟨a, ha, rfl⟩
  · exact fx_el_no h1 (br_t rfl (fy_bad_no h1 (br_f ft_10 ⟨rfl, R D⟩)))
  · refine fx_el_ok q31 ha (br_f ft_10 ?_)
    by_cases c1 : v2 < 0
    · exact br_t c1 (fy_bad_ok q31 ha (br_t rfl (br_t c1 ⟨rfl, R D⟩)))
    · by_cases c2 : v2 ≤ 1000000
      · obtain ⟨n, hn, rfl⟩ := nI_of2 (n := 1000000) (by decide) c1 c2
        exact br_f c1 (br_t c2 (fx_raise hQ ha (by omega) (fy_bad_ok q31 ha (br_t rfl (br_f c1 (br_t c2 (fy_raised hQ ha (by omega) (fun D' => ⟨rfl, R D'⟩))))))))
      · exact br_f c1 (br_f c2 (fy_bad_ok q31 ha (br_t rfl (br_f c1 (br_f c2 ⟨rfl, R D⟩)))))
theorem i_vc_order {k : Nat} {u : SX} {v : SY} (I : i_Rel k u v) (hk : k + 3 ≤ 1536) (v1 : Int32) : wpX_order (fun r => wpY_order (fun r' v' => r' = r ∧ i_Rel (k + 3) u v') v v1) u v1 := by
  obtain ⟨q, p, d, h, D, hQ, rfl, rfl⟩ := I
  have R : ∀ D', i_Rel (k + 3) (nI q) (nI q, nI p, nI d, D') := fun D' => ⟨q, p, d, h, D', hQ, rfl, rfl⟩
  have hB := ft_Q_b hQ
  have q31 : q < 2 ^ 31 := by omega
  unfold wpX_order wpY_order
  dsimp only
  rcases ft_ix v1 q31 with h1 | ⟨a, ha, rfl⟩
  · exact fx_un_no h1 (br_t rfl (fy_bad_no h1 (br_f ft_10 ⟨rfl, R D⟩)))
  · by_cases a0 : a = 0
    · subst a0
      exact fx_un_0 (br_t rfl (fy_bad_ok q31 ha (br_t rfl (br_t rfl ⟨rfl, R D⟩))))
    · obtain ⟨r, hX, hY⟩ := fo_order hQ ha (by omega) (q - 2) 1 (by omega)
      have e1 : ft_it q a 1 = a := ft_one hQ ha
      rw [e1] at hX hY
      exact fx_un_ok q31 ha (by omega) (br_f ft_10 ⟨q, hX _ (fy_bad_ok q31 ha (br_t rfl (br_f (nI_ne0 (by omega) (by omega)) ⟨q, hY _ (fun D' => ⟨rfl, R D'⟩) q (by omega) D⟩))) q (by omega)⟩)
theorem i_vc_root {k : Nat} {u : SX} {v : SY} (I : i_Rel k u v) (hk : k + 3 ≤ 1536) (v1 : Int32) : wpX_root (fun r => wpY_root (fun r' v' => r' = r ∧ i_Rel (k + 3) u v') v v1) u v1 := by
  obtain ⟨q, p, d, h, D, hQ, rfl, rfl⟩ := I
  have R : ∀ D', i_Rel (k + 3) (nI q) (nI q, nI p, nI d, D') := fun D' => ⟨q, p, d, h, D', hQ, rfl, rfl⟩
  have hB := ft_Q_b hQ
  have q31 : q < 2 ^ 31 := by omega
  unfold wpX_root wpY_root
  dsimp only
  rcases ft_ix v1 q31 with h1 | ⟨a, ha, rfl⟩
  · exact fx_el_no h1 (br_t rfl (fy_bad_no h1 (br_f ft_10 ⟨rfl, R D⟩)))
  · obtain ⟨r, hX, hY⟩ := fo_root hQ ha q 0 (by omega)
    exact fx_el_ok q31 ha (br_f ft_10 ⟨q + 1, hX _ (fy_bad_ok q31 ha (br_t rfl ⟨q + 1, hY _ (fun D' => ⟨rfl, R D'⟩) (q + 1) (by omega) D⟩)) (q + 1) (by omega)⟩)
theorem i_vc_roots {k : Nat} {u : SX} {v : SY} (I : i_Rel k u v) (hk : k + 3 ≤ 1536) (v1 : Int32) (v2 : Int32) : wpX_roots (fun r => wpY_roots (fun r' v' => r' = r ∧ i_Rel (k + 3) u v') v v1 v2) u v1 v2 := by
  obtain ⟨q, p, d, h, D, hQ, rfl, rfl⟩ := I
  have R : ∀ D', i_Rel (k + 3) (nI q) (nI q, nI p, nI d, D') := fun D' => ⟨q, p, d, h, D', hQ, rfl, rfl⟩
  have hB := ft_Q_b hQ
  have q31 : q < 2 ^ 31 := by omega
  unfold wpX_roots wpY_roots
  dsimp only
  rcases ft_ix v1 q31 with h1 | ⟨a, ha, rfl⟩
  · exact fx_el_no h1 (br_t rfl (fy_bad_no h1 (br_f ft_10 ⟨rfl, R D⟩)))
  · refine fx_el_ok q31 ha (br_f ft_10 ?_)
    by_cases c1 : v2 < 1
    · exact br_t c1 (fy_bad_ok q31 ha (br_t rfl (br_t c1 ⟨rfl, R D⟩)))
    · by_cases c2 : v2 ≤ 1000000
      · have c0 : ¬ v2 < 0 := fun z => c1 (Int32.lt_trans z (by decide))
        obtain ⟨n, hn, rfl⟩ := nI_of2 (n := 1000000) (by decide) c0 c2
        obtain ⟨r, hX, hY⟩ := fo_roots hQ (e := n) ha (by omega) q 0 (by omega) 0
        exact br_f c1 (br_t c2 ⟨q + 1, hX _ (fy_bad_ok q31 ha (br_t rfl (br_f c1 (br_t c2 ⟨q + 1, hY _ (fun D' => ⟨rfl, R D'⟩) (q + 1) (by omega) D⟩)))) (q + 1) (by omega)⟩)
      · exact br_f c1 (br_f c2 (fy_bad_ok q31 ha (br_t rfl (br_f c1 (br_f c2 ⟨rfl, R D⟩)))))
theorem i_vc_trace {k : Nat} {u : SX} {v : SY} (I : i_Rel k u v) (hk : k + 3 ≤ 1536) (v1 : Int32) (v2 : Int32) : wpX_trace (fun r => wpY_trace (fun r' v' => r' = r ∧ i_Rel (k + 3) u v') v v1 v2) u v1 v2 := by
  obtain ⟨q, p, d, h, D, hQ, rfl, rfl⟩ := I
  have R : ∀ D', i_Rel (k + 3) (nI q) (nI q, nI p, nI d, D') := fun D' => ⟨q, p, d, h, D', hQ, rfl, rfl⟩
  have hB := ft_Q_b hQ
  have q31 : q < 2 ^ 31 := by omega
  unfold wpX_trace wpY_trace
  dsimp only
  obtain ⟨t, ht, sX, sY, sn⟩ := fo_steps hQ v2
  refine sX _ ?_
  rcases ft_ix v1 q31 with h1 | ⟨a, ha, rfl⟩
  · exact fx_el_no h1 (br_t rfl (fy_bad_no h1 (br_f ft_10 ⟨rfl, R D⟩)))
  · refine fx_el_ok q31 ha (br_f ft_10 ?_)
    by_cases z : t = 0
    · subst z
      exact br_t rfl (fy_bad_ok q31 ha (br_t rfl (sY _ _ _ _ (br_t rfl ⟨rfl, R D⟩))))
    · have z0 : ¬ nI t = 0 := nI_ne0 (by omega) (by omega)
      obtain ⟨s, hs, rfl⟩ := sn z
      obtain ⟨r, hX, hY⟩ := fo_trace hQ (by omega) ht sY t 0 (by omega) 0 a (by omega) ha
      exact br_f z0 ⟨t + 1, hX _ (fy_bad_ok q31 ha (br_t rfl (sY _ _ _ _ (br_f z0 ⟨t + 1, hY _ (fun D' => ⟨rfl, R D'⟩) (t + 1) (by omega) D⟩)))) (t + 1) (by omega)⟩
theorem i_vc_home {k : Nat} {u : SX} {v : SY} (I : i_Rel k u v) (hk : k + 3 ≤ 1536) (v1 : Int32) : wpX_home (fun r => wpY_home (fun r' v' => r' = r ∧ i_Rel (k + 3) u v') v v1) u v1 := by
  obtain ⟨q, p, d, h, D, hQ, rfl, rfl⟩ := I
  have R : ∀ D', i_Rel (k + 3) (nI q) (nI q, nI p, nI d, D') := fun D' => ⟨q, p, d, h, D', hQ, rfl, rfl⟩
  have hB := ft_Q_b hQ
  have q31 : q < 2 ^ 31 := by omega
  unfold wpX_home wpY_home
  dsimp only
  rcases ft_ix v1 q31 with h1 | ⟨a, ha, rfl⟩
  · exact fx_el_no h1 (br_t rfl (fy_bad_no h1 (br_f ft_10 ⟨rfl, R D⟩)))
  · obtain ⟨r, hX, hY⟩ := fo_home hQ ha (q - 2) 2 (by omega)
    exact fx_el_ok q31 ha (br_f ft_10 ⟨q, hX _ (fy_bad_ok q31 ha (br_t rfl ⟨q, hY _ (fun D' => ⟨rfl, R D'⟩) q (by omega) D⟩)) q (by omega)⟩)
theorem i_vc_logarithm {k : Nat} {u : SX} {v : SY} (I : i_Rel k u v) (hk : k + 3 ≤ 1536) (v1 : Int32) (v2 : Int32) : wpX_logarithm (fun r => wpY_logarithm (fun r' v' => r' = r ∧ i_Rel (k + 3) u v') v v1 v2) u v1 v2 := by
  obtain ⟨q, p, d, h, D, hQ, rfl, rfl⟩ := I
  have R : ∀ D', i_Rel (k + 3) (nI q) (nI q, nI p, nI d, D') := fun D' => ⟨q, p, d, h, D', hQ, rfl, rfl⟩
  have hB := ft_Q_b hQ
  have q31 : q < 2 ^ 31 := by omega
  unfold wpX_logarithm wpY_logarithm
  dsimp only
  rcases ft_ix v1 q31 with h1 | ⟨g, hg, rfl⟩
  · exact fx_un_no h1 (br_t rfl (fy_bad_no h1 (br_f ft_10 ⟨rfl, R D⟩)))
  · by_cases g0 : g = 0
    · subst g0
      refine fx_un_0 (br_t rfl (fy_bad_ok q31 hg (br_t rfl ?_)))
      rcases ft_ix v2 q31 with h2 | ⟨a, ha, rfl⟩
      · exact fy_bad_no h2 (br_f ft_10 ⟨rfl, R D⟩)
      · exact fy_bad_ok q31 ha (br_t rfl (br_t rfl ⟨rfl, R D⟩))
    · have gn : ¬ nI g = 0 := nI_ne0 (by omega) (by omega)
      refine fx_un_ok q31 hg (by omega) (br_f ft_10 ?_)
      rcases ft_ix v2 q31 with h2 | ⟨a, ha, rfl⟩
      · exact fx_un_no h2 (br_t rfl (fy_bad_ok q31 hg (br_t rfl (fy_bad_no h2 (br_f ft_10 ⟨rfl, R D⟩)))))
      · by_cases a0 : a = 0
        · subst a0
          exact fx_un_0 (br_t rfl (fy_bad_ok q31 hg (br_t rfl (fy_bad_ok q31 ha (br_t rfl (br_f gn (br_t rfl ⟨rfl, R D⟩)))))))
        · have an : ¬ nI a = 0 := nI_ne0 (by omega) (by omega)
          obtain ⟨r, hX, hY⟩ := fo_log hQ hg (by omega) ha (q - 1) 0 (by omega) (Or.inl rfl)
          exact fx_un_ok q31 ha (by omega) (br_f ft_10 ⟨q, hX _ (fy_bad_ok q31 hg (br_t rfl (fy_bad_ok q31 ha (br_t rfl (br_f gn (br_f an ⟨q + 1, hY _ (fun D' => ⟨rfl, R D'⟩) (q + 1) (by omega) D⟩)))))) q (by omega)⟩)
end
