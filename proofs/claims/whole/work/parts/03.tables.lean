/- the two fields by logarithms to the base t: E, the powers of t, L, the logarithms, a byte each -/
def ft_lk (T i : Nat) : Nat := Nat.land (Nat.shiftRight T (Nat.mul 8 i)) 255
def ft_m (r E L a b : Nat) : Nat := cond (Nat.beq (Nat.mul a b) 0) 0 (ft_lk E (Nat.mod (Nat.add (ft_lk L a) (ft_lk L b)) r))
def ft_ml (q a b : Nat) : Nat := cond (Nat.beq q 64) (ft_m 63 0x2131393d3f3e1f2e172a152b341a0d2732192d373a1d2f361b2c160b2412092533381c0e07221129353b3c1e0f261328140a052330180c0603201008040201 0x3a393b14152a3c1d2b2716321e2e3d0a28372c253335170f2f111f220b193e053813291c26312d093624340e10211804121b3008230d20031a070c0206010000 a b) (ft_m 80 0x1d4032474b19222529444d504e1a3c143d2e2c4216210b3a2d0f0538493545173e48180836120602372f46312a0e3b4a4f342b28270d1e0a20414c33113913233f15071c264330101f240c041b090301 0x441f4345154b20332e4c2531460a3c164e0f2f3f4121381234272b321e144d2409263e373d1d23471c1b0b480610493a1707194f0c03424a2d303b0e40112a130836221a053918022c0d29350401280000 a b)
def ft_g64 (D : Nat → Nat) : Nat := Nat.add (Nat.add (Nat.add (Nat.add (Nat.add (Nat.mul (Nat.mod (Nat.add (D 0) (D 6)) 2) 1) (Nat.mul (Nat.mod (Nat.add (Nat.add (D 1) (D 7)) (D 6)) 2) 2)) (Nat.mul (Nat.mod (Nat.add (Nat.add (D 2) (D 8)) (D 7)) 2) 4)) (Nat.mul (Nat.mod (Nat.add (Nat.add (D 3) (D 9)) (D 8)) 2) 8)) (Nat.mul (Nat.mod (Nat.add (Nat.add (D 4) (D 10)) (D 9)) 2) 16)) (Nat.mul (Nat.mod (Nat.add (D 5) (D 10)) 2) 32)
def ft_g81 (D : Nat → Nat) : Nat := Nat.add (Nat.add (Nat.add (Nat.mul (Nat.mod (Nat.add (D 0) (D 4)) 3) 1) (Nat.mul (Nat.mod (Nat.add (Nat.add (D 1) (D 5)) (D 4)) 3) 3)) (Nat.mul (Nat.mod (Nat.add (Nat.add (D 2) (D 6)) (D 5)) 3) 9)) (Nat.mul (Nat.mod (Nat.add (D 3) (D 6)) 3) 27)
theorem ft_g64_e (D : Nat → Nat) : ft_g64 D = (D 0 + D 6) % 2 * 1 + (D 1 + D 7 + D 6) % 2 * 2 + (D 2 + D 8 + D 7) % 2 * 4 + (D 3 + D 9 + D 8) % 2 * 8 + (D 4 + D 10 + D 9) % 2 * 16 + (D 5 + D 10) % 2 * 32 := rfl
theorem ft_g81_e (D : Nat → Nat) : ft_g81 D = (D 0 + D 4) % 3 * 1 + (D 1 + D 5 + D 4) % 3 * 3 + (D 2 + D 6 + D 5) % 3 * 9 + (D 3 + D 6) % 3 * 27 := rfl
theorem ft_cv_0 {p k a b m : Nat} (hm : 2 * k ≤ m + 1) : ∀ n, n ≤ k → ft_cv p k a b m n = 0 := by
  intro n
  induction n with
  | zero => intro _; rfl
  | succ n ih =>
    intro hn
    rw [ft_cv_s, ih (by omega), ft_pt_f (by omega)]
theorem ft_D_0 {p k a b m : Nat} (hm : 2 * k ≤ m + 1) : ft_D p k a b m = 0 := by
  show ft_cv p k a b m k % p = 0
  rw [ft_cv_0 hm k (Nat.le_refl k), Nat.zero_mod]
theorem ft_y64 {D : Nat → Nat} (hD : ∀ m, 11 ≤ m → D m = 0) : ft_v 2 (ft_rd 2 6 D 6) 6 = ft_g64 D := by
  have e : ft_rd 2 6 D 6 = ft_rs 2 6 6 (ft_rs 2 6 7 (ft_rs 2 6 8 (ft_rs 2 6 9 (ft_rs 2 6 10 (ft_rs 2 6 11 (D)))))) := rfl
  have h11 := hD 11 (by omega)
  have v : ∀ E : Nat → Nat, ft_v 2 E 6 = 0 + E 0 * 2 ^ 0 + E 1 * 2 ^ 1 + E 2 * 2 ^ 2 + E 3 * 2 ^ 3 + E 4 * 2 ^ 4 + E 5 * 2 ^ 5 := fun _ => rfl
  rw [v, e, ft_g64_e]
  simp [ft_rs_at, h11]
theorem ft_y81 {D : Nat → Nat} (hD : ∀ m, 7 ≤ m → D m = 0) : ft_v 3 (ft_rd 3 4 D 8) 4 = ft_g81 D := by
  have e : ft_rd 3 4 D 8 = ft_rs 3 4 4 (ft_rs 3 4 5 (ft_rs 3 4 6 (ft_rs 3 4 7 (ft_rs 3 4 8 (ft_rs 3 4 9 (ft_rs 3 4 10 (ft_rs 3 4 11 (D)))))))) := rfl
  have h7 := hD 7 (by omega)
  have h8 := hD 8 (by omega)
  have h9 := hD 9 (by omega)
  have h10 := hD 10 (by omega)
  have h11 := hD 11 (by omega)
  have v : ∀ E : Nat → Nat, ft_v 3 E 4 = 0 + E 0 * 3 ^ 0 + E 1 * 3 ^ 1 + E 2 * 3 ^ 2 + E 3 * 3 ^ 3 := fun _ => rfl
  rw [v, e, ft_g81_e]
  simp [ft_rs_at, h7, h8, h9, h10, h11]
noncomputable def ft_f64 (a b : Nat) : Bool := Nat.beq (ft_tot 2 6 32 a b 6) (ft_ml 64 a b) && Nat.beq (ft_g64 (ft_D 2 6 a b)) (ft_ml 64 a b)
theorem ft_c64_0 : ft_all 8 (fun i => ft_all 64 (fun b => ft_f64 (Nat.add (Nat.mul 8 0) i) b)) = true := by decide +kernel
theorem ft_c64_1 : ft_all 8 (fun i => ft_all 64 (fun b => ft_f64 (Nat.add (Nat.mul 8 1) i) b)) = true := by decide +kernel
theorem ft_c64_2 : ft_all 8 (fun i => ft_all 64 (fun b => ft_f64 (Nat.add (Nat.mul 8 2) i) b)) = true := by decide +kernel
theorem ft_c64_3 : ft_all 8 (fun i => ft_all 64 (fun b => ft_f64 (Nat.add (Nat.mul 8 3) i) b)) = true := by decide +kernel
theorem ft_c64_4 : ft_all 8 (fun i => ft_all 64 (fun b => ft_f64 (Nat.add (Nat.mul 8 4) i) b)) = true := by decide +kernel
theorem ft_c64_5 : ft_all 8 (fun i => ft_all 64 (fun b => ft_f64 (Nat.add (Nat.mul 8 5) i) b)) = true := by decide +kernel
theorem ft_c64_6 : ft_all 8 (fun i => ft_all 64 (fun b => ft_f64 (Nat.add (Nat.mul 8 6) i) b)) = true := by decide +kernel
theorem ft_c64_7 : ft_all 8 (fun i => ft_all 64 (fun b => ft_f64 (Nat.add (Nat.mul 8 7) i) b)) = true := by decide +kernel
theorem ft_c64_j : ∀ j, j < 8 → ft_all 8 (fun i => ft_all 64 (fun b => ft_f64 (Nat.add (Nat.mul 8 j) i) b)) = true
  | 0, _ => ft_c64_0
  | 1, _ => ft_c64_1
  | 2, _ => ft_c64_2
  | 3, _ => ft_c64_3
  | 4, _ => ft_c64_4
  | 5, _ => ft_c64_5
  | 6, _ => ft_c64_6
  | 7, _ => ft_c64_7
  | n + 8, h => absurd h (by omega)
theorem ft_c64 {a b : Nat} (ha : a < 64) (hb : b < 64) : ft_f64 a b = true := by
  have h := ft_all_at (ft_all_at (ft_c64_j (a / 8) (by omega)) (a % 8) (by omega)) b hb
  have e : Nat.add (Nat.mul 8 (a / 8)) (a % 8) = a := Nat.div_add_mod a 8
  rwa [e] at h
theorem ft_x64 {a b : Nat} (ha : a < 64) (hb : b < 64) : ft_tot 2 6 32 a b 6 = ft_ml 64 a b := by
  have h := ft_c64 ha hb
  unfold ft_f64 at h
  rw [Bool.and_eq_true] at h
  exact Nat.eq_of_beq_eq_true h.1
theorem ft_z64 {a b : Nat} (ha : a < 64) (hb : b < 64) : ft_yM 2 6 a b = ft_ml 64 a b := by
  have h := ft_c64 ha hb
  unfold ft_f64 at h
  rw [Bool.and_eq_true] at h
  have h2 := Nat.eq_of_beq_eq_true h.2
  have h3 := ft_y64 (D := ft_D 2 6 a b) (fun m hm => ft_D_0 (by omega))
  exact h3.trans h2
noncomputable def ft_f81 (a b : Nat) : Bool := Nat.beq (ft_tot 3 4 27 a b 4) (ft_ml 81 a b) && Nat.beq (ft_g81 (ft_D 3 4 a b)) (ft_ml 81 a b)
theorem ft_c81_0 : ft_all 9 (fun i => ft_all 81 (fun b => ft_f81 (Nat.add (Nat.mul 9 0) i) b)) = true := by decide +kernel
theorem ft_c81_1 : ft_all 9 (fun i => ft_all 81 (fun b => ft_f81 (Nat.add (Nat.mul 9 1) i) b)) = true := by decide +kernel
theorem ft_c81_2 : ft_all 9 (fun i => ft_all 81 (fun b => ft_f81 (Nat.add (Nat.mul 9 2) i) b)) = true := by decide +kernel
theorem ft_c81_3 : ft_all 9 (fun i => ft_all 81 (fun b => ft_f81 (Nat.add (Nat.mul 9 3) i) b)) = true := by decide +kernel
theorem ft_c81_4 : ft_all 9 (fun i => ft_all 81 (fun b => ft_f81 (Nat.add (Nat.mul 9 4) i) b)) = true := by decide +kernel
theorem ft_c81_5 : ft_all 9 (fun i => ft_all 81 (fun b => ft_f81 (Nat.add (Nat.mul 9 5) i) b)) = true := by decide +kernel
theorem ft_c81_6 : ft_all 9 (fun i => ft_all 81 (fun b => ft_f81 (Nat.add (Nat.mul 9 6) i) b)) = true := by decide +kernel
theorem ft_c81_7 : ft_all 9 (fun i => ft_all 81 (fun b => ft_f81 (Nat.add (Nat.mul 9 7) i) b)) = true := by decide +kernel
theorem ft_c81_8 : ft_all 9 (fun i => ft_all 81 (fun b => ft_f81 (Nat.add (Nat.mul 9 8) i) b)) = true := by decide +kernel
theorem ft_c81_j : ∀ j, j < 9 → ft_all 9 (fun i => ft_all 81 (fun b => ft_f81 (Nat.add (Nat.mul 9 j) i) b)) = true
  | 0, _ => ft_c81_0
  | 1, _ => ft_c81_1
  | 2, _ => ft_c81_2
  | 3, _ => ft_c81_3
  | 4, _ => ft_c81_4
  | 5, _ => ft_c81_5
  | 6, _ => ft_c81_6
  | 7, _ => ft_c81_7
  | 8, _ => ft_c81_8
  | n + 9, h => absurd h (by omega)
theorem ft_c81 {a b : Nat} (ha : a < 81) (hb : b < 81) : ft_f81 a b = true := by
  have h := ft_all_at (ft_all_at (ft_c81_j (a / 9) (by omega)) (a % 9) (by omega)) b hb
  have e : Nat.add (Nat.mul 9 (a / 9)) (a % 9) = a := Nat.div_add_mod a 9
  rwa [e] at h
theorem ft_x81 {a b : Nat} (ha : a < 81) (hb : b < 81) : ft_tot 3 4 27 a b 4 = ft_ml 81 a b := by
  have h := ft_c81 ha hb
  unfold ft_f81 at h
  rw [Bool.and_eq_true] at h
  exact Nat.eq_of_beq_eq_true h.1
theorem ft_z81 {a b : Nat} (ha : a < 81) (hb : b < 81) : ft_yM 3 4 a b = ft_ml 81 a b := by
  have h := ft_c81 ha hb
  unfold ft_f81 at h
  rw [Bool.and_eq_true] at h
  have h2 := Nat.eq_of_beq_eq_true h.2
  have h3 := ft_y81 (D := ft_D 3 4 a b) (fun m hm => ft_D_0 (by omega))
  exact h3.trans h2
theorem ft_xM {q p k h a b : Nat} (hQ : ft_Q q p k h) (ha : a < q) (hb : b < q) : ft_tot p k h a b k = ft_ml q a b := by
  rcases hQ with ⟨rfl, rfl, rfl, rfl⟩ | ⟨rfl, rfl, rfl, rfl⟩
  · exact ft_x64 ha hb
  · exact ft_x81 ha hb
theorem ft_yM_e {q p k h a b : Nat} (hQ : ft_Q q p k h) (ha : a < q) (hb : b < q) : ft_yM p k a b = ft_ml q a b := by
  rcases hQ with ⟨rfl, rfl, rfl, rfl⟩ | ⟨rfl, rfl, rfl, rfl⟩
  · exact ft_z64 ha hb
  · exact ft_z81 ha hb
theorem ft_ml_q {q p k h a b : Nat} (hQ : ft_Q q p k h) (ha : a < q) (hb : b < q) : ft_ml q a b < q := by
  rw [← ft_xM hQ ha hb]
  exact ft_tot_q hQ a b k
/- powers: by squares (both sides), and one by one -/
noncomputable def ft_sq (q a i : Nat) : Nat := Nat.rec (motive := fun _ => Nat) a (fun _ s => ft_ml q s s) i
noncomputable def ft_rr (q a n i : Nat) : Nat := Nat.rec (motive := fun _ => Nat) 1 (fun i r => cond (Nat.beq (Nat.mod (Nat.div n (Nat.pow 2 i)) 2) 1) (ft_ml q r (ft_sq q a i)) r) i
noncomputable def ft_pw (q a n : Nat) : Nat := ft_rr q a n 20
noncomputable def ft_it (q a n : Nat) : Nat := Nat.rec (motive := fun _ => Nat) 1 (fun _ s => ft_ml q s a) n
theorem ft_sq_s (q a i : Nat) : ft_sq q a (i + 1) = ft_ml q (ft_sq q a i) (ft_sq q a i) := rfl
theorem ft_it_s (q a i : Nat) : ft_it q a (i + 1) = ft_ml q (ft_it q a i) a := rfl
theorem ft_rr_s (q a n i : Nat) : ft_rr q a n (i + 1) = cond (Nat.beq (n / 2 ^ i % 2) 1) (ft_ml q (ft_rr q a n i) (ft_sq q a i)) (ft_rr q a n i) := rfl
theorem ft_rr_1 {q a n i : Nat} (h : n / 2 ^ i % 2 = 1) : ft_rr q a n (i + 1) = ft_ml q (ft_rr q a n i) (ft_sq q a i) := by
  rw [ft_rr_s, h]; rfl
theorem ft_rr_0 {q a n i : Nat} (h : n / 2 ^ i % 2 ≠ 1) : ft_rr q a n (i + 1) = ft_rr q a n i := by
  have e : n / 2 ^ i % 2 = 0 := by omega
  rw [ft_rr_s, e]; rfl
theorem ft_rr_z {q a n i : Nat} (h : n / 2 ^ i = 0) : ∀ d, ft_rr q a n (i + d) = ft_rr q a n i := by
  intro d
  induction d with
  | zero => rfl
  | succ d ih =>
    have e : n / 2 ^ (i + d) = 0 := by rw [Nat.pow_add, ← Nat.div_div_eq_div_mul, h, Nat.zero_div]
    rw [← Nat.add_assoc, ft_rr_0 (by rw [e]; decide), ih]
theorem ft_sq_q {q p k h a : Nat} (hQ : ft_Q q p k h) (ha : a < q) : ∀ i, ft_sq q a i < q := by
  intro i
  induction i with
  | zero => exact ha
  | succ i ih => rw [ft_sq_s]; exact ft_ml_q hQ ih ih
theorem ft_rr_q {q p k h a : Nat} (hQ : ft_Q q p k h) (ha : a < q) (n : Nat) : ∀ i, ft_rr q a n i < q := by
  intro i
  have hb := ft_Q_b hQ
  induction i with
  | zero => show 1 < q; omega
  | succ i ih =>
    by_cases c : n / 2 ^ i % 2 = 1
    · rw [ft_rr_1 c]; exact ft_ml_q hQ ih (ft_sq_q hQ ha i)
    · rw [ft_rr_0 c]; exact ih
theorem ft_pw_q {q p k h a : Nat} (hQ : ft_Q q p k h) (ha : a < q) (n : Nat) : ft_pw q a n < q := ft_rr_q hQ ha n 20
theorem ft_it_q {q p k h a : Nat} (hQ : ft_Q q p k h) (ha : a < q) : ∀ i, ft_it q a i < q := by
  intro i
  have hb := ft_Q_b hQ
  induction i with
  | zero => show 1 < q; omega
  | succ i ih => rw [ft_it_s]; exact ft_ml_q hQ ih ha
/- closed facts: one is neutral, a^(q-1) is 1, the inverse is a^(q-2) and no other, 0 has none -/
noncomputable def ft_k1 (q a : Nat) : Bool := Nat.beq (ft_ml q 1 a) a && cond (Nat.beq a 0) true (Nat.beq (ft_it q a (Nat.sub q 1)) 1)
noncomputable def ft_k2 (q a : Nat) : Bool := ft_all q (fun b => cond (Nat.beq (ft_ml q a b) 1) (Nat.beq b (ft_pw q a (Nat.sub q 2))) true)
noncomputable def ft_k3 (q a : Nat) : Bool := cond (Nat.beq a 0) (ft_all q (fun b => Nat.beq (ft_ml q 0 b) 0)) (Nat.beq (ft_ml q a (ft_pw q a (Nat.sub q 2))) 1)
theorem ft_k1_64 : ft_all 64 (ft_k1 64) = true := by decide +kernel
theorem ft_k1_81 : ft_all 81 (ft_k1 81) = true := by decide +kernel
theorem ft_k2_64 : ft_all 64 (ft_k2 64) = true := by decide +kernel
theorem ft_k2_81 : ft_all 81 (ft_k2 81) = true := by decide +kernel
theorem ft_k3_64 : ft_all 64 (ft_k3 64) = true := by decide +kernel
theorem ft_k3_81 : ft_all 81 (ft_k3 81) = true := by decide +kernel
theorem ft_one {q p k h a : Nat} (hQ : ft_Q q p k h) (ha : a < q) : ft_ml q 1 a = a := by
  have H : ft_k1 q a = true := by
    rcases hQ with ⟨rfl, rfl, rfl, rfl⟩ | ⟨rfl, rfl, rfl, rfl⟩
    · exact ft_all_at ft_k1_64 a ha
    · exact ft_all_at ft_k1_81 a ha
  unfold ft_k1 at H
  rw [Bool.and_eq_true] at H
  exact Nat.eq_of_beq_eq_true H.1
theorem ft_ord {q p k h a : Nat} (hQ : ft_Q q p k h) (ha : a < q) (h0 : 0 < a) : ft_it q a (q - 1) = 1 := by
  have H : ft_k1 q a = true := by
    rcases hQ with ⟨rfl, rfl, rfl, rfl⟩ | ⟨rfl, rfl, rfl, rfl⟩
    · exact ft_all_at ft_k1_64 a ha
    · exact ft_all_at ft_k1_81 a ha
  unfold ft_k1 at H
  rw [Bool.and_eq_true] at H
  obtain ⟨c, rfl⟩ : ∃ c, a = c + 1 := ⟨a - 1, by omega⟩
  exact Nat.eq_of_beq_eq_true H.2
theorem ft_inv1 {q p k h a b : Nat} (hQ : ft_Q q p k h) (ha : a < q) (hb : b < q) (e : ft_ml q a b = 1) : b = ft_pw q a (q - 2) := by
  have H : ft_k2 q a = true := by
    rcases hQ with ⟨rfl, rfl, rfl, rfl⟩ | ⟨rfl, rfl, rfl, rfl⟩
    · exact ft_all_at ft_k2_64 a ha
    · exact ft_all_at ft_k2_81 a ha
  unfold ft_k2 at H
  have H2 := ft_all_at H b hb
  rw [e] at H2
  exact Nat.eq_of_beq_eq_true H2
theorem ft_inv2 {q p k h a : Nat} (hQ : ft_Q q p k h) (ha : a < q) (h0 : 0 < a) : ft_ml q a (ft_pw q a (q - 2)) = 1 := by
  have H : ft_k3 q a = true := by
    rcases hQ with ⟨rfl, rfl, rfl, rfl⟩ | ⟨rfl, rfl, rfl, rfl⟩
    · exact ft_all_at ft_k3_64 a ha
    · exact ft_all_at ft_k3_81 a ha
  unfold ft_k3 at H
  obtain ⟨c, rfl⟩ : ∃ c, a = c + 1 := ⟨a - 1, by omega⟩
  exact Nat.eq_of_beq_eq_true H
theorem ft_nul {q p k h b : Nat} (hQ : ft_Q q p k h) (hb : b < q) : ft_ml q 0 b = 0 := by
  have H : ft_k3 q 0 = true := by
    rcases hQ with ⟨rfl, rfl, rfl, rfl⟩ | ⟨rfl, rfl, rfl, rfl⟩
    · exact ft_all_at ft_k3_64 0 (by decide)
    · exact ft_all_at ft_k3_81 0 (by decide)
  unfold ft_k3 at H
  exact Nat.eq_of_beq_eq_true (ft_all_at H b hb)
