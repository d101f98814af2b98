section
/- rows of kit/rows (given for pasting): stores, nI arithmetic, branches by naturals, masks, shifts -/
theorem pk_us {f : Nat → Int32} {k : Nat} {x : Int32} : upd f k x k = x := if_pos rfl
theorem pk_un {f : Nat → Int32} {k j : Nat} {x : Int32} (h : j ≠ k) : upd f k x j = f j := if_neg h
theorem pk_sub {a b : Nat} (h : b ≤ a) : nI a - nI b = nI (a - b) := by
  obtain ⟨c, rfl⟩ : ∃ c, a = c + b := ⟨a - b, by omega⟩
  rw [← nI_add, Int32.add_sub_cancel, Nat.add_sub_cancel]
theorem pk_m1 (n : Nat) : nI (n + 1) + (-1) = nI n := by
  rw [← nI_1, Int32.add_assoc, show (1 : Int32) + (-1) = 0 from rfl, Int32.add_zero]
theorem pk_mul (a b : Nat) : nI a * nI b = nI (a * b) := (Int32.ofNat_mul a b).symm
theorem pk_div {a d : Nat} (ha : a < 2 ^ 31) (h0 : 0 < d) (hd : d < 2 ^ 31) : nI a / nI d = nI (a / d) := by
  apply Int32.toInt_inj.mp
  rw [lg_idiv_nonneg (by rw [nI_toInt ha]; omega) (by rw [nI_toInt hd]; omega), nI_toInt ha, nI_toInt hd, nI_toInt (Nat.lt_of_le_of_lt (Nat.div_le_self a d) ha)]
  first | rfl | exact (Int.natCast_ediv _ _).symm
theorem pk_rem {a d : Nat} (ha : a < 2 ^ 31) (h0 : 0 < d) (hd : d < 2 ^ 31) : nI a - nI a / nI d * nI d = nI (a % d) := by
  rw [pk_div ha h0 hd, pk_mul, pk_sub (Nat.div_mul_le_self a d)]
  exact congrArg nI (by have := Nat.div_add_mod' a d; omega)
theorem pk_ix (x : Int32) {n : Nat} (hn : n < 2 ^ 31) : x < 0 ∨ nI n ≤ x ∨ ∃ j : Nat, j < n ∧ x = nI j := by
  by_cases h : x < 0
  · exact Or.inl h
  · obtain ⟨j, hj, rfl⟩ := nI_of h
    by_cases h2 : j < n
    · exact Or.inr (Or.inr ⟨j, h2, rfl⟩)
    · exact Or.inr (Or.inl (nI_le (by omega) hj))
theorem pk_le {x y : Int32} {A B : Prop} (a b : Nat) (f : a ≤ b → A) (g : b < a → B) (hx : x = nI a := by rfl) (hy : y = nI b := by rfl) (ha : a < 2 ^ 31 := by omega) (hb : b < 2 ^ 31 := by omega) : (x ≤ y → A) ∧ (¬ x ≤ y → B) := by
  subst hx hy
  rw [nI_leI ha hb]
  exact ⟨f, fun z => g (by omega)⟩
theorem pk_lt {x y : Int32} {A B : Prop} (a b : Nat) (f : a < b → A) (g : b ≤ a → B) (hx : x = nI a := by rfl) (hy : y = nI b := by rfl) (ha : a < 2 ^ 31 := by omega) (hb : b < 2 ^ 31 := by omega) : (x < y → A) ∧ (¬ x < y → B) := by
  subst hx hy
  rw [nI_ltI ha hb]
  exact ⟨f, fun z => g (by omega)⟩
theorem pk_eq {x y : Int32} {A B : Prop} (a b : Nat) (f : a = b → A) (g : a ≠ b → B) (hx : x = nI a := by rfl) (hy : y = nI b := by rfl) (ha : a < 2 ^ 31 := by omega) (hb : b < 2 ^ 31 := by omega) : (x = y → A) ∧ (¬ x = y → B) := by
  subst hx hy
  rw [nI_eq ha hb]
  exact ⟨f, g⟩
theorem pk_in {x : Int32} (n N : Nat) (h : n < N) (hx : x = nI n := by rfl) (hN : N < 2 ^ 31 := by omega) : vp_in x N := by
  subst hx
  exact vp_in_nI h hN
theorem pk_cl {x : Int32} (n : Nat) (hx : x = nI n := by rfl) (h : n < 2 ^ 31 := by omega) : x.toNatClampNeg = n := by
  subst hx
  exact nI_clamp h
theorem pk_tn {n : Nat} (h : n < 2 ^ 32) : (nI n).toBitVec.toNat = n := Nat.mod_eq_of_lt h
theorem pk_and (x : Int32) {m : Int32} (k : Nat) (hm : m.toBitVec.toNat = 2 ^ k - 1) : x &&& m = nI (x.toBitVec.toNat % 2 ^ k) := by
  apply Int32.toBitVec_inj.mp
  apply BitVec.eq_of_toNat_eq
  rw [Int32.toBitVec_and, BitVec.toNat_and, hm, Nat.and_two_pow_sub_one_eq_mod]
  show _ = (BitVec.ofNat 32 _).toNat
  rw [BitVec.toNat_ofNat]
  exact (Nat.mod_eq_of_lt (Nat.lt_of_le_of_lt (Nat.mod_le _ _) x.toBitVec.isLt)).symm
theorem pk_andN {n : Nat} (h : n < 2 ^ 32) {m : Int32} (k : Nat) (hm : m.toBitVec.toNat = 2 ^ k - 1) : nI n &&& m = nI (n % 2 ^ k) := by
  rw [pk_and _ k hm, pk_tn h]
theorem pk_andE (x : Int32) {m : Int32} (k : Nat) (hm : m.toBitVec.toNat = 2 ^ k - 1) : ∃ j : Nat, j < 2 ^ k ∧ x &&& m = nI j := ⟨_, Nat.mod_lt _ (Nat.two_pow_pos k), pk_and x k hm⟩
theorem pk_andIn (x : Int32) {m : Int32} (k : Nat) (hm : m.toBitVec.toNat = 2 ^ k - 1) (hk : k ≤ 30) : vp_in (x &&& m) (2 ^ k) := by
  obtain ⟨j, hj, e⟩ := pk_andE x k hm
  rw [e]
  exact vp_in_nI hj (Nat.lt_of_le_of_lt (Nat.pow_le_pow_right (by decide) hk) (by decide))
theorem pk_shr (a s : Int32) (k : Nat) (hs : (s.toBitVec.smod 32).toNat = k) : (a >>> s).toInt = a.toInt >>> k := by
  show (a.toBitVec.sshiftRight (s.toBitVec.smod 32).toNat).toInt = _
  rw [hs, BitVec.toInt_sshiftRight]
  rfl
theorem pk_shrN {n : Nat} (h : n < 2 ^ 31) (s : Int32) (k : Nat) (hs : (s.toBitVec.smod 32).toNat = k) : nI n >>> s = nI (n / 2 ^ k) := by
  apply Int32.toInt_inj.mp
  have h2 : n / 2 ^ k ≤ n := Nat.div_le_self _ _
  rw [pk_shr _ _ k hs, nI_toInt h, nI_toInt (by omega), Int.shiftRight_eq_div_pow]
  rfl
theorem s_l : ∀ n, n < 32 → ((nI n &&& 31).toBitVec.smod 32).toNat = n := by decide +kernel
end
section
/- the pure pictures: sums, products, powers over naturals below q -/
def ft_Q (q p k h : Nat) : Prop := (q = 64 ∧ p = 2 ∧ k = 6 ∧ h = 32) ∨ (q = 81 ∧ p = 3 ∧ k = 4 ∧ h = 27)
theorem ft_Q_pow {q p k h : Nat} (hQ : ft_Q q p k h) : p ^ k = q := by
  rcases hQ with ⟨rfl, rfl, rfl, rfl⟩ | ⟨rfl, rfl, rfl, rfl⟩ <;> decide
theorem ft_Q_b {q p k h : Nat} (hQ : ft_Q q p k h) : 2 ≤ p ∧ p ≤ 3 ∧ 4 ≤ k ∧ k ≤ 6 ∧ 64 ≤ q ∧ q ≤ 81 ∧ 27 ≤ h ∧ h ≤ 32 ∧ h * p = q := by
  rcases hQ with ⟨rfl, rfl, rfl, rfl⟩ | ⟨rfl, rfl, rfl, rfl⟩ <;> decide
theorem ft_Q_pi {q p k h i : Nat} (hQ : ft_Q q p k h) (hi : i ≤ k) : 1 ≤ p ^ i ∧ p ^ i ≤ q := by
  have hb := ft_Q_b hQ
  refine ⟨Nat.pow_pos (by omega), ?_⟩
  rw [← ft_Q_pow hQ]
  exact Nat.pow_le_pow_right (by omega) hi
noncomputable def ft_all (n : Nat) (f : Nat → Bool) : Bool := Nat.rec (motive := fun _ => Bool) true (fun i ih => f i && ih) n
theorem ft_all_at {f : Nat → Bool} : ∀ {n : Nat}, ft_all n f = true → ∀ i, i < n → f i = true := by
  intro n
  induction n with
  | zero => intro _ i hi; exact absurd hi (Nat.not_lt_zero i)
  | succ n ih =>
    intro h i hi
    have h' : (f n && ft_all n f) = true := h
    rw [Bool.and_eq_true] at h'
    by_cases e : i = n
    · rw [e]; exact h'.1
    · exact ih h'.2 i (by omega)
/- the sum, digit by digit: k digits to the base p -/
noncomputable def ft_S (p a b k : Nat) : Nat := Nat.rec (motive := fun _ => Nat) 0 (fun i s => Nat.add s (Nat.mul (Nat.mod (Nat.add (Nat.mod (Nat.div a (Nat.pow p i)) p) (Nat.mod (Nat.div b (Nat.pow p i)) p)) p) (Nat.pow p i))) k
theorem ft_S_0 (p a b : Nat) : ft_S p a b 0 = 0 := rfl
theorem ft_S_s (p a b i : Nat) : ft_S p a b (i + 1) = ft_S p a b i + (a / p ^ i % p + b / p ^ i % p) % p * p ^ i := rfl
theorem ft_S_lt {p : Nat} (hp : 0 < p) (a b : Nat) : ∀ k, ft_S p a b k < p ^ k := by
  intro k
  induction k with
  | zero => rw [ft_S_0, Nat.pow_zero]; exact Nat.one_pos
  | succ k ih =>
    rw [ft_S_s, Nat.pow_succ]
    have h1 : (a / p ^ k % p + b / p ^ k % p) % p < p := Nat.mod_lt _ hp
    generalize (a / p ^ k % p + b / p ^ k % p) % p = r at h1 ⊢
    have h2 : (r + 1) * p ^ k ≤ p * p ^ k := Nat.mul_le_mul_right _ h1
    rw [Nat.add_mul, Nat.one_mul] at h2
    rw [Nat.mul_comm (p ^ k) p]
    omega
theorem ft_S_q {q p k h : Nat} (hQ : ft_Q q p k h) (a b : Nat) : ft_S p a b k < q := by
  have hb := ft_Q_b hQ
  have := ft_S_lt (p := p) (by omega) a b k
  rwa [ft_Q_pow hQ] at this
theorem ft_S_i {q p k h i : Nat} (hQ : ft_Q q p k h) (a b : Nat) (hi : i ≤ k) : ft_S p a b i < 81 := by
  have hb := ft_Q_b hQ
  have h1 := ft_S_lt (p := p) (by omega) a b i
  have h2 := ft_Q_pi hQ hi
  omega
/- the component's product: a times t, again and again; the digits of b say how often each is added -/
noncomputable def ft_t (p k h s : Nat) : Nat := ft_S p (Nat.mul (Nat.mod s h) p) (Nat.mul (Nat.div s h) (Nat.add p 1)) k
noncomputable def ft_sh (p k h a i : Nat) : Nat := Nat.rec (motive := fun _ => Nat) a (fun _ s => ft_t p k h s) i
noncomputable def ft_an (p k s t n : Nat) : Nat := Nat.rec (motive := fun _ => Nat) t (fun _ r => ft_S p r s k) n
noncomputable def ft_tot (p k h a b i : Nat) : Nat := Nat.rec (motive := fun _ => Nat) 0 (fun i t => ft_an p k (ft_sh p k h a i) t (Nat.mod (Nat.div b (Nat.pow p i)) p)) i
theorem ft_t_e (p k h s : Nat) : ft_t p k h s = ft_S p (s % h * p) (s / h * (p + 1)) k := rfl
theorem ft_sh_s (p k h a i : Nat) : ft_sh p k h a (i + 1) = ft_t p k h (ft_sh p k h a i) := rfl
theorem ft_an_s (p k s t n : Nat) : ft_an p k s t (n + 1) = ft_S p (ft_an p k s t n) s k := rfl
theorem ft_tot_s (p k h a b i : Nat) : ft_tot p k h a b (i + 1) = ft_an p k (ft_sh p k h a i) (ft_tot p k h a b i) (b / p ^ i % p) := rfl
theorem ft_an_t (p k s t n : Nat) : ft_an p k s (ft_S p t s k) n = ft_an p k s t (n + 1) := by
  induction n with
  | zero => rfl
  | succ n ih => rw [ft_an_s, ih, ← ft_an_s]
theorem ft_an_q {q p k h : Nat} (hQ : ft_Q q p k h) {t : Nat} (ht : t < q) (s : Nat) : ∀ n, ft_an p k s t n < q := by
  intro n
  cases n with
  | zero => exact ht
  | succ n => rw [ft_an_s]; exact ft_S_q hQ _ _
theorem ft_sh_q {q p k h : Nat} (hQ : ft_Q q p k h) {a : Nat} (ha : a < q) : ∀ i, ft_sh p k h a i < q := by
  intro i
  cases i with
  | zero => exact ha
  | succ i => rw [ft_sh_s]; exact ft_S_q hQ _ _
theorem ft_tot_q {q p k h : Nat} (hQ : ft_Q q p k h) (a b : Nat) : ∀ i, ft_tot p k h a b i < q := by
  intro i
  have hb := ft_Q_b hQ
  induction i with
  | zero => show 0 < q; omega
  | succ i ih => rw [ft_tot_s]; exact ft_an_q hQ ih _ _
/- the reference's product: what the digits hold -/
def ft_w (k i m : Nat) : Bool := Nat.ble i m && Nat.ble (Nat.add (Nat.sub m i) 1) k
theorem ft_w_iff {k i m : Nat} : ft_w k i m = true ↔ i ≤ m ∧ m - i < k := by
  unfold ft_w
  rw [Bool.and_eq_true, Nat.ble_eq, Nat.ble_eq]
  exact Iff.rfl
theorem ft_w_f {k i m : Nat} (h : ¬ (i ≤ m ∧ m - i < k)) : ft_w k i m = false := by
  cases e : ft_w k i m with
  | false => rfl
  | true => exact absurd (ft_w_iff.mp e) h
noncomputable def ft_pt (p k a b i m : Nat) : Nat := cond (ft_w k i m) (Nat.mul (Nat.mod (Nat.div a (Nat.pow p i)) p) (Nat.mod (Nat.div b (Nat.pow p (Nat.sub m i))) p)) 0
noncomputable def ft_cv (p k a b m n : Nat) : Nat := Nat.rec (motive := fun _ => Nat) 0 (fun i s => Nat.add s (ft_pt p k a b i m)) n
theorem ft_cv_s (p k a b m n : Nat) : ft_cv p k a b m (n + 1) = ft_cv p k a b m n + ft_pt p k a b n m := rfl
theorem ft_pt_t {p k a b i m : Nat} (h : i ≤ m ∧ m - i < k) : ft_pt p k a b i m = (a / p ^ i % p) * (b / p ^ (m - i) % p) := by
  unfold ft_pt
  rw [ft_w_iff.mpr h]
  rfl
theorem ft_pt_f {p k a b i m : Nat} (h : ¬ (i ≤ m ∧ m - i < k)) : ft_pt p k a b i m = 0 := by
  unfold ft_pt
  rw [ft_w_f h]
  rfl
theorem ft_pt_n {p j a b i m : Nat} (h : m ≠ i + j) : ft_pt p (j + 1) a b i m = ft_pt p j a b i m := by
  by_cases c : i ≤ m ∧ m - i < j
  · rw [ft_pt_t c, ft_pt_t ⟨c.1, by omega⟩]
  · rw [ft_pt_f c, ft_pt_f (by omega)]
def ft_rs (p k n : Nat) (D : Nat → Nat) : Nat → Nat := fun j => if j = n then 0 else if j = n - k + 1 then (D (n - k + 1) + D n) % p else if j = n - k then (D (n - k) + D n) % p else D j
theorem ft_rs_at (p k n : Nat) (D : Nat → Nat) (j : Nat) : ft_rs p k n D j = if j = n then 0 else if j = n - k + 1 then (D (n - k + 1) + D n) % p else if j = n - k then (D (n - k) + D n) % p else D j := rfl
noncomputable def ft_rd (p k : Nat) (D : Nat → Nat) (j : Nat) : Nat → Nat := Nat.rec (motive := fun _ => Nat → Nat) D (fun j E => ft_rs p k (11 - j) E) j
theorem ft_rd_s (p k : Nat) (D : Nat → Nat) (j : Nat) : ft_rd p k D (j + 1) = ft_rs p k (11 - j) (ft_rd p k D j) := rfl
noncomputable def ft_v (p : Nat) (E : Nat → Nat) (k : Nat) : Nat := Nat.rec (motive := fun _ => Nat) 0 (fun i r => r + E i * p ^ i) k
theorem ft_v_s (p : Nat) (E : Nat → Nat) (i : Nat) : ft_v p E (i + 1) = ft_v p E i + E i * p ^ i := rfl
theorem ft_v_lt {p : Nat} (hp : 0 < p) {E : Nat → Nat} : ∀ k, (∀ i, i < k → E i < p) → ft_v p E k < p ^ k := by
  intro k
  induction k with
  | zero => intro _; show 0 < p ^ 0; rw [Nat.pow_zero]; exact Nat.one_pos
  | succ k ih =>
    intro hE
    have h0 := ih (fun i hi => hE i (by omega))
    rw [ft_v_s, Nat.pow_succ]
    have h1 : E k < p := hE k (by omega)
    generalize E k = r at h1 ⊢
    have h2 : (r + 1) * p ^ k ≤ p * p ^ k := Nat.mul_le_mul_right _ h1
    rw [Nat.add_mul, Nat.one_mul] at h2
    rw [Nat.mul_comm (p ^ k) p]
    omega
noncomputable def ft_D (p k a b : Nat) : Nat → Nat := fun m => Nat.mod (ft_cv p k a b m k) p
noncomputable def ft_yM (p k a b : Nat) : Nat := ft_v p (ft_rd p k (ft_D p k a b) (12 - k)) k
end
section
/- the two fields by logarithms to the base t: E, the powers of t, L, the logarithms, a byte each -/
def ft_lk (T i : Nat) : Nat := Nat.land (Nat.shiftRight T (Nat.mul 8 i)) 255
def ft_m (r E L a b : Nat) : Nat := cond (Nat.beq (Nat.mul a b) 0) 0 (ft_lk E (Nat.mod (Nat.add (ft_lk L a) (ft_lk L b)) r))
def ft_ml (q a b : Nat) : Nat := cond (Nat.beq q 64) (ft_m 63 0x2131393d3f3e1f2e172a152b341a0d2732192d373a1d2f361b2c160b2412092533381c0e07221129353b3c1e0f261328140a052330180c0603201008040201 0x3a393b14152a3c1d2b2716321e2e3d0a28372c253335170f2f111f220b193e053813291c26312d093624340e10211804121b3008230d20031a070c0206010000 a b) (ft_m 80 0x1d4032474b19222529444d504e1a3c143d2e2c4216210b3a2d0f0538493545173e48180836120602372f46312a0e3b4a4f342b28270d1e0a20414c33113913233f15071c264330101f240c041b090301 0x441f4345154b20332e4c2531460a3c164e0f2f3f4121381234272b321e144d2409263e373d1d23471c1b0b480610493a1707194f0c03424a2d303b0e40112a130836221a053918022c0d29350401280000 a b)
def ft_g64 (D : Nat → Nat) : Nat := Nat.add (Nat.add (Nat.add (Nat.add (Nat.add (Nat.mul (Nat.mod (Nat.add (D 0) (D 6)) 2) 1) (Nat.mul (Nat.mod (Nat.add (Nat.add (D 1) (D 7)) (D 6)) 2) 2)) (Nat.mul (Nat.mod (Nat.add (Nat.add (D 2) (D 8)) (D 7)) 2) 4)) (Nat.mul (Nat.mod (Nat.add (Nat.add (D 3) (D 9)) (D 8)) 2) 8)) (Nat.mul (Nat.mod (Nat.add (Nat.add (D 4) (D 10)) (D 9)) 2) 16)) (Nat.mul (Nat.mod (Nat.add (D 5) (D 10)) 2) 32)
def ft_g81 (D : Nat → Nat) : Nat := Nat.add (Nat.add (Nat.add (Nat.mul (Nat.mod (Nat.add (D 0) (D 4)) 3) 1) (Nat.mul (Nat.mod (Nat.add (Nat.add (D 1) (D 5)) (D 4)) 3) 3)) (Nat.mul (Nat.mod (Nat.add (Nat.add (D 2) (D 6)) (D 5)) 3) 9)) (Nat.mul (Nat.mod (Nat.add (D 3) (D 6)) 3) 27)
theorem ft_g64_e (D : Nat → Nat) : ft_g64 D = (D 0 + D 6) % 2 * 1 + (D 1 + D 7 + D 6) % 2 * 2 + (D 2 + D 8 + D 7) % 2 * 4 + (D 3 + D 9 + D 8) % 2 * 8 + (D 4 + D 10 + D 9) % 2 * 16 + (D 5 + D 10) % 2 * 32 := rfl
theorem ft_g81_e (D : Nat → Nat) : ft_g81 D = (D 0 + D 4) % 3 * 1 + (D 1 + D 5 + D 4) % 3 * 3 + (D 2 + D 6 + D 5) % 3 * 9 + (D 3 + D 6) % 3 * 27 := rfl
theorem ft_cv_0 {p k a b m : Nat} (hm : 2 * k ≤ m + 1) : ∀ n, n ≤ k → ft_cv p k a b m n = 0 := by
  intro n
  induction n with
  | zero => intro _; rfl
  | succ n ih =>
    intro hn
    rw [ft_cv_s, ih (by omega), ft_pt_f (by omega)]
theorem ft_D_0 {p k a b m : Nat} (hm : 2 * k ≤ m + 1) : ft_D p k a b m = 0 := by
  show ft_cv p k a b m k % p = 0
  rw [ft_cv_0 hm k (Nat.le_refl k), Nat.zero_mod]
theorem ft_y64 {D : Nat → Nat} (hD : ∀ m, 11 ≤ m → D m = 0) : ft_v 2 (ft_rd 2 6 D 6) 6 = ft_g64 D := by
  have e : ft_rd 2 6 D 6 = ft_rs 2 6 6 (ft_rs 2 6 7 (ft_rs 2 6 8 (ft_rs 2 6 9 (ft_rs 2 6 10 (ft_rs 2 6 11 (D)))))) := rfl
  have h11 := hD 11 (by omega)
  have v : ∀ E : Nat → Nat, ft_v 2 E 6 = 0 + E 0 * 2 ^ 0 + E 1 * 2 ^ 1 + E 2 * 2 ^ 2 + E 3 * 2 ^ 3 + E 4 * 2 ^ 4 + E 5 * 2 ^ 5 := fun _ => rfl
  rw [v, e, ft_g64_e]
  simp [ft_rs_at, h11]
  omega
theorem ft_y81 {D : Nat → Nat} (hD : ∀ m, 7 ≤ m → D m = 0) : ft_v 3 (ft_rd 3 4 D 8) 4 = ft_g81 D := by
  have e : ft_rd 3 4 D 8 = ft_rs 3 4 4 (ft_rs 3 4 5 (ft_rs 3 4 6 (ft_rs 3 4 7 (ft_rs 3 4 8 (ft_rs 3 4 9 (ft_rs 3 4 10 (ft_rs 3 4 11 (D)))))))) := rfl
  have h7 := hD 7 (by omega)
  have h8 := hD 8 (by omega)
  have h9 := hD 9 (by omega)
  have h10 := hD 10 (by omega)
  have h11 := hD 11 (by omega)
  have v : ∀ E : Nat → Nat, ft_v 3 E 4 = 0 + E 0 * 3 ^ 0 + E 1 * 3 ^ 1 + E 2 * 3 ^ 2 + E 3 * 3 ^ 3 := fun _ => rfl
  rw [v, e, ft_g81_e]
  simp [ft_rs_at, h7, h8, h9, h10, h11]
  omega
noncomputable def ft_f64 (a b : Nat) : Bool := Nat.beq (ft_tot 2 6 32 a b 6) (ft_ml 64 a b) && Nat.beq (ft_g64 (ft_D 2 6 a b)) (ft_ml 64 a b)
theorem ft_c64_0 : ft_all 8 (fun i => ft_all 64 (fun b => ft_f64 (Nat.add (Nat.mul 8 0) i) b)) = true := by decide +kernel
theorem ft_c64_1 : ft_all 8 (fun i => ft_all 64 (fun b => ft_f64 (Nat.add (Nat.mul 8 1) i) b)) = true := by decide +kernel
theorem ft_c64_2 : ft_all 8 (fun i => ft_all 64 (fun b => ft_f64 (Nat.add (Nat.mul 8 2) i) b)) = true := by decide +kernel
theorem ft_c64_3 : ft_all 8 (fun i => ft_all 64 (fun b => ft_f64 (Nat.add (Nat.mul 8 3) i) b)) = true := by decide +kernel
theorem ft_c64_4 : ft_all 8 (fun i => ft_all 64 (fun b => ft_f64 (Nat.add (Nat.mul 8 4) i) b)) = true := by decide +kernel
theorem ft_c64_5 : ft_all 8 (fun i => ft_all 64 (fun b => ft_f64 (Nat.add (Nat.mul 8 5) i) b)) = true := by decide +kernel
theorem ft_c64_6 : ft_all 8 (fun i => ft_all 64 (fun b => ft_f64 (Nat.add (Nat.mul 8 6) i) b)) = true := by decide +kernel
theorem ft_c64_7 : ft_all 8 (fun i => ft_all 64 (fun b => ft_f64 (Nat.add (Nat.mul 8 7) i) b)) = true := by decide +kernel
theorem ft_c64_j : ∀ j, j < 8 → ft_all 8 (fun i => ft_all 64 (fun b => ft_f64 (Nat.add (Nat.mul 8 j) i) b)) = true
  | 0, _ => ft_c64_0
  | 1, _ => ft_c64_1
  | 2, _ => ft_c64_2
  | 3, _ => ft_c64_3
  | 4, _ => ft_c64_4
  | 5, _ => ft_c64_5
  | 6, _ => ft_c64_6
  | 7, _ => ft_c64_7
  | n + 8, h => absurd h (by omega)
theorem ft_c64 {a b : Nat} (ha : a < 64) (hb : b < 64) : ft_f64 a b = true := by
  have h := ft_all_at (ft_all_at (ft_c64_j (a / 8) (by omega)) (a % 8) (by omega)) b hb
  have e : Nat.add (Nat.mul 8 (a / 8)) (a % 8) = a := Nat.div_add_mod a 8
  dsimp only at h
  rwa [e] at h
theorem ft_x64 {a b : Nat} (ha : a < 64) (hb : b < 64) : ft_tot 2 6 32 a b 6 = ft_ml 64 a b := by
  have h := ft_c64 ha hb
  unfold ft_f64 at h
  rw [Bool.and_eq_true] at h
  exact Nat.eq_of_beq_eq_true h.1
theorem ft_z64 {a b : Nat} (ha : a < 64) (hb : b < 64) : ft_yM 2 6 a b = ft_ml 64 a b := by
  have h := ft_c64 ha hb
  unfold ft_f64 at h
  rw [Bool.and_eq_true] at h
  have h2 := Nat.eq_of_beq_eq_true h.2
  have h3 := ft_y64 (D := ft_D 2 6 a b) (fun m hm => ft_D_0 (by omega))
  exact h3.trans h2
noncomputable def ft_f81 (a b : Nat) : Bool := Nat.beq (ft_tot 3 4 27 a b 4) (ft_ml 81 a b) && Nat.beq (ft_g81 (ft_D 3 4 a b)) (ft_ml 81 a b)
theorem ft_c81_0 : ft_all 9 (fun i => ft_all 81 (fun b => ft_f81 (Nat.add (Nat.mul 9 0) i) b)) = true := by decide +kernel
theorem ft_c81_1 : ft_all 9 (fun i => ft_all 81 (fun b => ft_f81 (Nat.add (Nat.mul 9 1) i) b)) = true := by decide +kernel
theorem ft_c81_2 : ft_all 9 (fun i => ft_all 81 (fun b => ft_f81 (Nat.add (Nat.mul 9 2) i) b)) = true := by decide +kernel
theorem ft_c81_3 : ft_all 9 (fun i => ft_all 81 (fun b => ft_f81 (Nat.add (Nat.mul 9 3) i) b)) = true := by decide +kernel
theorem ft_c81_4 : ft_all 9 (fun i => ft_all 81 (fun b => ft_f81 (Nat.add (Nat.mul 9 4) i) b)) = true := by decide +kernel
theorem ft_c81_5 : ft_all 9 (fun i => ft_all 81 (fun b => ft_f81 (Nat.add (Nat.mul 9 5) i) b)) = true := by decide +kernel
theorem ft_c81_6 : ft_all 9 (fun i => ft_all 81 (fun b => ft_f81 (Nat.add (Nat.mul 9 6) i) b)) = true := by decide +kernel
theorem ft_c81_7 : ft_all 9 (fun i => ft_all 81 (fun b => ft_f81 (Nat.add (Nat.mul 9 7) i) b)) = true := by decide +kernel
theorem ft_c81_8 : ft_all 9 (fun i => ft_all 81 (fun b => ft_f81 (Nat.add (Nat.mul 9 8) i) b)) = true := by decide +kernel
theorem ft_c81_j : ∀ j, j < 9 → ft_all 9 (fun i => ft_all 81 (fun b => ft_f81 (Nat.add (Nat.mul 9 j) i) b)) = true
  | 0, _ => ft_c81_0
  | 1, _ => ft_c81_1
  | 2, _ => ft_c81_2
  | 3, _ => ft_c81_3
  | 4, _ => ft_c81_4
  | 5, _ => ft_c81_5
  | 6, _ => ft_c81_6
  | 7, _ => ft_c81_7
  | 8, _ => ft_c81_8
  | n + 9, h => absurd h (by omega)
theorem ft_c81 {a b : Nat} (ha : a < 81) (hb : b < 81) : ft_f81 a b = true := by
  have h := ft_all_at (ft_all_at (ft_c81_j (a / 9) (by omega)) (a % 9) (by omega)) b hb
  have e : Nat.add (Nat.mul 9 (a / 9)) (a % 9) = a := Nat.div_add_mod a 9
  dsimp only at h
  rwa [e] at h
theorem ft_x81 {a b : Nat} (ha : a < 81) (hb : b < 81) : ft_tot 3 4 27 a b 4 = ft_ml 81 a b := by
  have h := ft_c81 ha hb
  unfold ft_f81 at h
  rw [Bool.and_eq_true] at h
  exact Nat.eq_of_beq_eq_true h.1
theorem ft_z81 {a b : Nat} (ha : a < 81) (hb : b < 81) : ft_yM 3 4 a b = ft_ml 81 a b := by
  have h := ft_c81 ha hb
  unfold ft_f81 at h
  rw [Bool.and_eq_true] at h
  have h2 := Nat.eq_of_beq_eq_true h.2
  have h3 := ft_y81 (D := ft_D 3 4 a b) (fun m hm => ft_D_0 (by omega))
  exact h3.trans h2
theorem ft_xM {q p k h a b : Nat} (hQ : ft_Q q p k h) (ha : a < q) (hb : b < q) : ft_tot p k h a b k = ft_ml q a b := by
  rcases hQ with ⟨rfl, rfl, rfl, rfl⟩ | ⟨rfl, rfl, rfl, rfl⟩
  · exact ft_x64 ha hb
  · exact ft_x81 ha hb
theorem ft_yM_e {q p k h a b : Nat} (hQ : ft_Q q p k h) (ha : a < q) (hb : b < q) : ft_yM p k a b = ft_ml q a b := by
  rcases hQ with ⟨rfl, rfl, rfl, rfl⟩ | ⟨rfl, rfl, rfl, rfl⟩
  · exact ft_z64 ha hb
  · exact ft_z81 ha hb
theorem ft_ml_q {q p k h a b : Nat} (hQ : ft_Q q p k h) (ha : a < q) (hb : b < q) : ft_ml q a b < q := by
  rw [← ft_xM hQ ha hb]
  exact ft_tot_q hQ a b k
/- powers: by squares (both sides), and one by one -/
noncomputable def ft_sq (q a i : Nat) : Nat := Nat.rec (motive := fun _ => Nat) a (fun _ s => ft_ml q s s) i
noncomputable def ft_rr (q a n i : Nat) : Nat := Nat.rec (motive := fun _ => Nat) 1 (fun i r => cond (Nat.beq (Nat.mod (Nat.div n (Nat.pow 2 i)) 2) 1) (ft_ml q r (ft_sq q a i)) r) i
noncomputable def ft_pw (q a n : Nat) : Nat := ft_rr q a n 20
noncomputable def ft_it (q a n : Nat) : Nat := Nat.rec (motive := fun _ => Nat) 1 (fun _ s => ft_ml q s a) n
theorem ft_sq_s (q a i : Nat) : ft_sq q a (i + 1) = ft_ml q (ft_sq q a i) (ft_sq q a i) := rfl
theorem ft_it_s (q a i : Nat) : ft_it q a (i + 1) = ft_ml q (ft_it q a i) a := rfl
theorem ft_rr_s (q a n i : Nat) : ft_rr q a n (i + 1) = cond (Nat.beq (n / 2 ^ i % 2) 1) (ft_ml q (ft_rr q a n i) (ft_sq q a i)) (ft_rr q a n i) := rfl
theorem ft_rr_1 {q a n i : Nat} (h : n / 2 ^ i % 2 = 1) : ft_rr q a n (i + 1) = ft_ml q (ft_rr q a n i) (ft_sq q a i) := by
  rw [ft_rr_s, h]; rfl
theorem ft_rr_0 {q a n i : Nat} (h : n / 2 ^ i % 2 ≠ 1) : ft_rr q a n (i + 1) = ft_rr q a n i := by
  have e : n / 2 ^ i % 2 = 0 := by omega
  rw [ft_rr_s, e]; rfl
theorem ft_rr_z {q a n i : Nat} (h : n / 2 ^ i = 0) : ∀ d, ft_rr q a n (i + d) = ft_rr q a n i := by
  intro d
  induction d with
  | zero => rfl
  | succ d ih =>
    have e : n / 2 ^ (i + d) = 0 := by rw [Nat.pow_add, ← Nat.div_div_eq_div_mul, h, Nat.zero_div]
    rw [← Nat.add_assoc, ft_rr_0 (by rw [e]; decide), ih]
theorem ft_sq_q {q p k h a : Nat} (hQ : ft_Q q p k h) (ha : a < q) : ∀ i, ft_sq q a i < q := by
  intro i
  induction i with
  | zero => exact ha
  | succ i ih => rw [ft_sq_s]; exact ft_ml_q hQ ih ih
theorem ft_rr_q {q p k h a : Nat} (hQ : ft_Q q p k h) (ha : a < q) (n : Nat) : ∀ i, ft_rr q a n i < q := by
  intro i
  have hb := ft_Q_b hQ
  induction i with
  | zero => show 1 < q; omega
  | succ i ih =>
    by_cases c : n / 2 ^ i % 2 = 1
    · rw [ft_rr_1 c]; exact ft_ml_q hQ ih (ft_sq_q hQ ha i)
    · rw [ft_rr_0 c]; exact ih
theorem ft_pw_q {q p k h a : Nat} (hQ : ft_Q q p k h) (ha : a < q) (n : Nat) : ft_pw q a n < q := ft_rr_q hQ ha n 20
theorem ft_it_q {q p k h a : Nat} (hQ : ft_Q q p k h) (ha : a < q) : ∀ i, ft_it q a i < q := by
  intro i
  have hb := ft_Q_b hQ
  induction i with
  | zero => show 1 < q; omega
  | succ i ih => rw [ft_it_s]; exact ft_ml_q hQ ih ha
/- closed facts: one is neutral, a^(q-1) is 1, the inverse is a^(q-2) and no other, 0 has none -/
noncomputable def ft_k1 (q a : Nat) : Bool := Nat.beq (ft_ml q 1 a) a && cond (Nat.beq a 0) true (Nat.beq (ft_it q a (Nat.sub q 1)) 1)
noncomputable def ft_k2 (q a : Nat) : Bool := ft_all q (fun b => cond (Nat.beq (ft_ml q a b) 1) (Nat.beq b (ft_pw q a (Nat.sub q 2))) true)
noncomputable def ft_k3 (q a : Nat) : Bool := cond (Nat.beq a 0) (ft_all q (fun b => Nat.beq (ft_ml q 0 b) 0)) (Nat.beq (ft_ml q a (ft_pw q a (Nat.sub q 2))) 1)
theorem ft_k1_64 : ft_all 64 (ft_k1 64) = true := by decide +kernel
theorem ft_k1_81 : ft_all 81 (ft_k1 81) = true := by decide +kernel
theorem ft_k2_64 : ft_all 64 (ft_k2 64) = true := by decide +kernel
theorem ft_k2_81 : ft_all 81 (ft_k2 81) = true := by decide +kernel
theorem ft_k3_64 : ft_all 64 (ft_k3 64) = true := by decide +kernel
theorem ft_k3_81 : ft_all 81 (ft_k3 81) = true := by decide +kernel
theorem ft_one {q p k h a : Nat} (hQ : ft_Q q p k h) (ha : a < q) : ft_ml q 1 a = a := by
  have H : ft_k1 q a = true := by
    rcases hQ with ⟨rfl, rfl, rfl, rfl⟩ | ⟨rfl, rfl, rfl, rfl⟩
    · exact ft_all_at ft_k1_64 a ha
    · exact ft_all_at ft_k1_81 a ha
  unfold ft_k1 at H
  rw [Bool.and_eq_true] at H
  exact Nat.eq_of_beq_eq_true H.1
theorem ft_ord {q p k h a : Nat} (hQ : ft_Q q p k h) (ha : a < q) (h0 : 0 < a) : ft_it q a (q - 1) = 1 := by
  have H : ft_k1 q a = true := by
    rcases hQ with ⟨rfl, rfl, rfl, rfl⟩ | ⟨rfl, rfl, rfl, rfl⟩
    · exact ft_all_at ft_k1_64 a ha
    · exact ft_all_at ft_k1_81 a ha
  unfold ft_k1 at H
  rw [Bool.and_eq_true] at H
  obtain ⟨c, rfl⟩ : ∃ c, a = c + 1 := ⟨a - 1, by omega⟩
  exact Nat.eq_of_beq_eq_true H.2
theorem ft_inv1 {q p k h a b : Nat} (hQ : ft_Q q p k h) (ha : a < q) (hb : b < q) (e : ft_ml q a b = 1) : b = ft_pw q a (q - 2) := by
  have H : ft_k2 q a = true := by
    rcases hQ with ⟨rfl, rfl, rfl, rfl⟩ | ⟨rfl, rfl, rfl, rfl⟩
    · exact ft_all_at ft_k2_64 a ha
    · exact ft_all_at ft_k2_81 a ha
  unfold ft_k2 at H
  have H2 := ft_all_at H b hb
  dsimp only at H2
  rw [e] at H2
  exact Nat.eq_of_beq_eq_true H2
theorem ft_inv2 {q p k h a : Nat} (hQ : ft_Q q p k h) (ha : a < q) (h0 : 0 < a) : ft_ml q a (ft_pw q a (q - 2)) = 1 := by
  have H : ft_k3 q a = true := by
    rcases hQ with ⟨rfl, rfl, rfl, rfl⟩ | ⟨rfl, rfl, rfl, rfl⟩
    · exact ft_all_at ft_k3_64 a ha
    · exact ft_all_at ft_k3_81 a ha
  unfold ft_k3 at H
  obtain ⟨c, rfl⟩ : ∃ c, a = c + 1 := ⟨a - 1, by omega⟩
  exact Nat.eq_of_beq_eq_true H
theorem ft_nul {q p k h b : Nat} (hQ : ft_Q q p k h) (hb : b < q) : ft_ml q 0 b = 0 := by
  have H : ft_k3 q 0 = true := by
    rcases hQ with ⟨rfl, rfl, rfl, rfl⟩ | ⟨rfl, rfl, rfl, rfl⟩
    · exact ft_all_at ft_k3_64 0 (by decide)
    · exact ft_all_at ft_k3_81 0 (by decide)
  unfold ft_k3 at H
  exact Nat.eq_of_beq_eq_true (ft_all_at H b hb)
end
section
/- the component's own methods, each against its picture -/
theorem fx_base {q p k h : Nat} (hQ : ft_Q q p k h) {post : Int32 → Prop} (hp : post (nI p)) : wpX_base post (nI q) := by
  rcases hQ with ⟨rfl, rfl, rfl, rfl⟩ | ⟨rfl, rfl, rfl, rfl⟩
  · exact br_f (by decide) hp
  · exact br_t rfl hp
theorem fx_deg {q p k h : Nat} (hQ : ft_Q q p k h) {post : Int32 → Prop} (hp : post (nI k)) : wpX_degree post (nI q) := by
  rcases hQ with ⟨rfl, rfl, rfl, rfl⟩ | ⟨rfl, rfl, rfl, rfl⟩
  · exact br_f (by decide) hp
  · exact br_t rfl hp
theorem fx_sum_l {q p k h : Nat} (hQ : ft_Q q p k h) {a b : Nat} (ha : a < 1000) (hb : b < 1000) {post : Int32 → Prop} (hp : post (nI (ft_S p a b k))) (z : Int32) : ∀ d i, i + d = k → ∀ n, d < n → wX_sum_26 post (nI p) (nI k) z n (nI (a / p ^ i)) (nI (b / p ^ i)) (nI (p ^ i)) (nI (ft_S p a b i)) (nI i) := by
  have hB := ft_Q_b hQ
  intro d
  induction d with
  | zero =>
    intro i hi n hn
    obtain ⟨m, rfl⟩ : ∃ m, n = m + 1 := ⟨n - 1, by omega⟩
    obtain rfl : i = k := by omega
    exact br_t (nI_le (Nat.le_refl _) (by omega)) hp
  | succ d ih =>
    intro i hi n hn
    obtain ⟨m, rfl⟩ : ∃ m, n = m + 1 := ⟨n - 1, by omega⟩
    have p0 : 0 < p := by omega
    have p31 : p < 2 ^ 31 := by omega
    have hp0 : ¬ nI p = 0 := nI_ne0 p0 p31
    have h1 : a / p ^ i < 2 ^ 31 := Nat.lt_of_le_of_lt (Nat.div_le_self _ _) (by omega)
    have h2 : b / p ^ i < 2 ^ 31 := Nat.lt_of_le_of_lt (Nat.div_le_self _ _) (by omega)
    have m1 : a / p ^ i % p < p := Nat.mod_lt _ p0
    have m2 : b / p ^ i % p < p := Nat.mod_lt _ p0
    have h3 : a / p ^ i % p + b / p ^ i % p < 2 ^ 31 := by omega
    refine br_f (nI_ge (by omega) (by omega)) ⟨hp0, hp0, hp0, nm_r (e' := nI (ft_S p a b (i + 1))) ?_ ⟨hp0, nm_r (e' := nI (a / p ^ (i + 1))) ?_ ⟨hp0, nm_r (e' := nI (b / p ^ (i + 1))) ?_ (nm_r (e' := nI (p ^ (i + 1))) ?_ (nm_r (nI_1 i) (ih (i + 1) (by omega) m (by omega))))⟩⟩⟩
    · rw [pk_rem h1 p0 p31, pk_rem h2 p0 p31, nI_add, pk_rem h3 p0 p31, pk_mul, nI_add]
      rfl
    · rw [pk_div h1 p0 p31, Nat.div_div_eq_div_mul, Nat.pow_succ]
    · rw [pk_div h2 p0 p31, Nat.div_div_eq_div_mul, Nat.pow_succ]
    · rw [pk_mul, Nat.pow_succ]
theorem fx_sum {q p k h : Nat} (hQ : ft_Q q p k h) {a b : Nat} (ha : a < 1000) (hb : b < 1000) {post : Int32 → Prop} (hp : post (nI (ft_S p a b k))) : wpX_sum post (nI q) (nI a) (nI b) := by
  have e := fx_sum_l hQ ha hb hp (nI q) k 0 (by omega) (k + 1) (by omega)
  rw [Nat.pow_zero, Nat.div_one, Nat.div_one] at e
  unfold wpX_sum
  exact fx_base hQ (fx_deg hQ ⟨k + 1, e⟩)
theorem fx_p50 {q p k h : Nat} (hQ : ft_Q q p k h) {s y i : Nat} (hs : s < q) (hy : y < 1000) {post : Int32 → Prop} {J : Int32 → Int32 → Int32 → Int32 → Prop} : ∀ c t n, t < q → c < 3 → c < n → J (nI (ft_t p k h s)) (nI (y / p)) (nI (ft_an p k s t c)) (nI (i + 1)) → wX_product_50 post J (nI p) (nI k) (nI h) (nI s) (nI y) (nI i) (nI q) n (nI t) (nI c) := by
  have hB := ft_Q_b hQ
  have p0 : 0 < p := by omega
  have p31 : p < 2 ^ 31 := by omega
  have h0 : 0 < h := by omega
  have h31 : h < 2 ^ 31 := by omega
  have s31 : s < 2 ^ 31 := by omega
  have y31 : y < 2 ^ 31 := by omega
  intro c
  induction c with
  | zero =>
    intro t n ht _ hn hJ
    obtain ⟨m, rfl⟩ : ∃ m, n = m + 1 := ⟨n - 1, by omega⟩
    have e1 : (nI s - nI s / nI h * nI h) * nI p = nI (s % h * p) := by rw [pk_rem s31 h0 h31, pk_mul]
    have e2 : nI (s / h) * (nI p + 1) = nI (s / h * (p + 1)) := by rw [nI_1, pk_mul]
    have b1 : s % h * p < 1000 ∧ s / h * (p + 1) < 1000 := by
      rcases hQ with ⟨rfl, rfl, rfl, rfl⟩ | ⟨rfl, rfl, rfl, rfl⟩ <;> omega
    refine br_t (nI_le (Nat.le_refl 0) (by omega)) ⟨nI_ne0 p0 p31, nm_r (pk_div y31 p0 p31) ⟨nI_ne0 h0 h31, nm_r (pk_div s31 h0 h31) ⟨nI_ne0 h0 h31, ?_⟩⟩⟩
    rw [e1, e2]
    exact fx_sum hQ b1.1 b1.2 (nm_r (nI_1 i) hJ)
  | succ c ih =>
    intro t n ht hc hn hJ
    obtain ⟨m, rfl⟩ : ∃ m, n = m + 1 := ⟨n - 1, by omega⟩
    refine br_f (nI_nle (by omega) (by omega)) (fx_sum hQ (by omega) (by omega) (nm_r (pk_m1 c) (ih _ m (ft_S_q hQ _ _) (by omega) (by omega) ?_)))
    rw [ft_an_t]
    exact hJ
theorem fx_p37 {q p k h : Nat} (hQ : ft_Q q p k h) {a b : Nat} (ha : a < q) (hb : b < q) {post : Int32 → Prop} (hp : post (nI (ft_tot p k h a b k))) : ∀ d i, i + d = k → ∀ n, d < n → wX_product_37 post (nI p) (nI k) (nI h) (nI q) n (nI (ft_sh p k h a i)) (nI (b / p ^ i)) (nI (ft_tot p k h a b i)) (nI i) := by
  have hB := ft_Q_b hQ
  have p0 : 0 < p := by omega
  have p31 : p < 2 ^ 31 := by omega
  intro d
  induction d with
  | zero =>
    intro i hi n hn
    obtain ⟨m, rfl⟩ : ∃ m, n = m + 1 := ⟨n - 1, by omega⟩
    obtain rfl : i = k := by omega
    exact br_t (nI_le (Nat.le_refl _) (by omega)) hp
  | succ d ih =>
    intro i hi n hn
    obtain ⟨m, rfl⟩ : ∃ m, n = m + 1 := ⟨n - 1, by omega⟩
    have h1 : b / p ^ i ≤ b := Nat.div_le_self _ _
    have m1 : b / p ^ i % p < p := Nat.mod_lt _ p0
    have e : b / p ^ (i + 1) = b / p ^ i / p := by rw [Nat.div_div_eq_div_mul, Nat.pow_succ]
    have j := ih (i + 1) (by omega) m (by omega)
    rw [e] at j
    exact br_f (nI_ge (by omega) (by omega)) ⟨nI_ne0 p0 p31, nm_r (pk_rem (by omega) p0 p31) ⟨_, fx_p50 hQ (ft_sh_q hQ ha i) (by omega) _ _ _ (ft_tot_q hQ a b i) (by omega) (Nat.lt_succ_self _) j⟩⟩
theorem fx_product {q p k h : Nat} (hQ : ft_Q q p k h) {a b : Nat} (ha : a < q) (hb : b < q) {post : Int32 → Prop} (hp : post (nI (ft_ml q a b))) : wpX_product post (nI q) (nI a) (nI b) := by
  have H : ∃ n, wX_product_37 post (nI p) (nI k) (nI h) (nI q) n (nI a) (nI b) 0 0 := by
    have e := fx_p37 hQ ha hb (post := post) (by rw [ft_xM hQ ha hb]; exact hp) k 0 (by omega) (k + 1) (by omega)
    rw [Nat.pow_zero, Nat.div_one] at e
    exact ⟨k + 1, e⟩
  unfold wpX_product
  refine fx_base hQ (fx_deg hQ ?_)
  rcases hQ with ⟨rfl, rfl, rfl, rfl⟩ | ⟨rfl, rfl, rfl, rfl⟩
  · exact br_f (by decide) H
  · exact br_t rfl H
theorem ft_shr {n i : Nat} (hn : n < 2 ^ 20) (hi : i < 20) : nI n >>> (nI i &&& 31) = nI (n / 2 ^ i) := pk_shrN (by omega) _ i (s_l i (by omega))
theorem ft_bit {m : Nat} (hm : m < 2 ^ 20) : nI m &&& 1 = nI (m % 2) := pk_andN (by omega) 1 (by decide)
theorem fx_raise_l {q p k h : Nat} (hQ : ft_Q q p k h) {a n : Nat} (ha : a < q) (hn : n < 2 ^ 20) {post : Int32 → Prop} (hp : post (nI (ft_pw q a n))) : ∀ d i, i + d = 20 → ∀ m, d < m → wX_raise_8 post (nI n) (nI q) m (nI (ft_rr q a n i)) (nI (ft_sq q a i)) (nI i) := by
  have hB := ft_Q_b hQ
  intro d
  induction d with
  | zero =>
    intro i hi m hm
    obtain ⟨m, rfl⟩ : ∃ x, m = x + 1 := ⟨m - 1, by omega⟩
    obtain rfl : i = 20 := by omega
    exact br_t (nI_le (Nat.le_refl 20) (by omega)) hp
  | succ d ih =>
    intro i hi m hm
    obtain ⟨m, rfl⟩ : ∃ x, m = x + 1 := ⟨m - 1, by omega⟩
    have hs := ft_shr hn (show i < 20 by omega)
    have hd : n / 2 ^ i ≤ n := Nat.div_le_self _ _
    have hm2 : n / 2 ^ i % 2 < 2 := Nat.mod_lt _ (by decide)
    have J := ih (i + 1) (by omega) m (by omega)
    have S := ft_sq_q hQ ha i
    refine br_f (nI_ge (a := i) (b := 20) (by omega) (by omega)) ?_
    rw [hs]
    by_cases z : n / 2 ^ i = 0
    · have w := ft_rr_z (q := q) (a := a) z (d + 1)
      rw [hi] at w
      rw [z]
      refine br_t (nI_le (Nat.le_refl 0) (by omega)) ?_
      rw [← w]
      exact hp
    · refine br_f (nI_nle (by omega) (by omega)) ?_
      rw [ft_bit (by omega)]
      by_cases c : n / 2 ^ i % 2 = 1
      · rw [ft_rr_1 c] at J
        rw [c]
        exact br_t rfl (fx_product hQ (ft_rr_q hQ ha n i) S (fx_product hQ S S (nm_r (nI_1 i) J)))
      · rw [ft_rr_0 c] at J
        have c0 : n / 2 ^ i % 2 = 0 := by omega
        rw [c0]
        exact br_f (by decide) (fx_product hQ S S (nm_r (nI_1 i) J))
theorem fx_raise {q p k h : Nat} (hQ : ft_Q q p k h) {a n : Nat} (ha : a < q) (hn : n < 2 ^ 20) {post : Int32 → Prop} (hp : post (nI (ft_pw q a n))) : wpX_raise post (nI q) (nI a) (nI n) :=
  ⟨21, fx_raise_l hQ ha hn hp 20 0 rfl 21 (by omega)⟩
end
