/- the reference's own methods, each against its picture -/
theorem fy_unit_l {p j : Nat} (hj : j ≤ 12) {post : Int32 → Prop} (hp : post (nI (p ^ j))) (vq vk : Int32) (D : Nat → Int32) : ∀ d i, i + d = j → ∀ n, d < n → wY_unit_4 post (nI j) vq (nI p) vk D n (nI (p ^ i)) (nI i) := by
  intro d
  induction d with
  | zero =>
    intro i hi n hn
    obtain ⟨m, rfl⟩ : ∃ m, n = m + 1 := ⟨n - 1, by omega⟩
    obtain rfl : i = j := by omega
    exact br_t (nI_le (Nat.le_refl _) (by omega)) hp
  | succ d ih =>
    intro i hi n hn
    obtain ⟨m, rfl⟩ : ∃ m, n = m + 1 := ⟨n - 1, by omega⟩
    have e : nI (p ^ i) * nI p = nI (p ^ (i + 1)) := by rw [pk_mul, Nat.pow_succ]
    exact br_f (nI_ge (by omega) (by omega)) (nm_r e (nm_r (nI_1 i) (ih (i + 1) (by omega) m (by omega))))
theorem fy_unit {p j : Nat} (hj : j ≤ 12) {post : Int32 → Prop} (hp : post (nI (p ^ j))) {vq vk : Int32} {D : Nat → Int32} : wpY_unit post (vq, nI p, vk, D) (nI j) := by
  have e := fy_unit_l hj hp vq vk D j 0 (by omega) (j + 1) (by omega)
  rw [Nat.pow_zero] at e
  exact ⟨j + 1, e⟩
theorem fy_coef {q p k h : Nat} (hQ : ft_Q q p k h) {a i : Nat} (ha : a < 1000) (hi : i ≤ k) {post : Int32 → Prop} (hp : post (nI (a / p ^ i % p))) {vq vk : Int32} {D : Nat → Int32} : wpY_coefficient post (vq, nI p, vk, D) (nI a) (nI i) := by
  have hB := ft_Q_b hQ
  have hI := ft_Q_pi hQ hi
  have p0 : 0 < p := by omega
  have p31 : p < 2 ^ 31 := by omega
  have i0 : 0 < p ^ i := by omega
  have i31 : p ^ i < 2 ^ 31 := by omega
  have h1 : a / p ^ i ≤ a := Nat.div_le_self _ _
  unfold wpY_coefficient
  dsimp only
  refine fy_unit (by omega) (br_f (nI_nle p0 p31) (br_f (nI_nle i0 i31) ⟨nI_ne0 i0 i31, nI_ne0 p0 p31, ?_⟩))
  rw [pk_div (by omega) i0 i31, pk_rem (by omega) p0 p31]
  exact hp
theorem fy_sum_l {q p k h : Nat} (hQ : ft_Q q p k h) {a b : Nat} (ha : a < 1000) (hb : b < 1000) {post : Int32 → Prop} (hp : post (nI (ft_S p a b k))) (vq : Int32) (D : Nat → Int32) : ∀ d i, i + d = k → ∀ n, d < n → wY_sum_5 post (nI a) (nI b) vq (nI p) (nI k) D n (nI (ft_S p a b i)) (nI i) := by
  have hB := ft_Q_b hQ
  intro d
  induction d with
  | zero =>
    intro i hi n hn
    obtain ⟨m, rfl⟩ : ∃ m, n = m + 1 := ⟨n - 1, by omega⟩
    obtain rfl : i = k := by omega
    exact br_t (nI_le (Nat.le_refl _) (by omega)) hp
  | succ d ih =>
    intro i hi n hn
    obtain ⟨m, rfl⟩ : ∃ m, n = m + 1 := ⟨n - 1, by omega⟩
    have p0 : 0 < p := by omega
    have m1 : a / p ^ i % p < p := Nat.mod_lt _ p0
    have m2 : b / p ^ i % p < p := Nat.mod_lt _ p0
    have J := ih (i + 1) (by omega) m (by omega)
    rw [ft_S_s] at J
    have hik : i ≤ k := by omega
    refine br_f (nI_ge (by omega) (by omega)) (fy_coef hQ ha hik (fy_coef hQ hb hik (nm_r (nI_add _ _) ?_)))
    generalize a / p ^ i % p = x at *
    generalize b / p ^ i % p = y at *
    by_cases c : x + y < p
    · rw [Nat.mod_eq_of_lt c] at J
      refine br_t (nI_lt c (by omega)) (fy_unit (by omega) (nm_r ?_ (nm_r (nI_1 i) J)))
      rw [pk_mul, nI_add]
    · have c1 : p ≤ x + y := by omega
      rw [Nat.mod_eq_sub_mod c1, Nat.mod_eq_of_lt (show x + y - p < p by omega)] at J
      refine br_f (nI_nlt c1 (by omega)) (fy_unit (by omega) (nm_r ?_ (nm_r (nI_1 i) J)))
      rw [pk_sub c1, pk_mul, nI_add]
theorem fy_sum {q p k h : Nat} (hQ : ft_Q q p k h) {a b : Nat} (ha : a < 1000) (hb : b < 1000) {post : Int32 → Prop} (hp : post (nI (ft_S p a b k))) {vq : Int32} {D : Nat → Int32} : wpY_sum post (vq, nI p, nI k, D) (nI a) (nI b) :=
  ⟨k + 1, fy_sum_l hQ ha hb hp vq D k 0 (by omega) (k + 1) (by omega)⟩
theorem fy_put {q p k h : Nat} (hQ : ft_Q q p k h) {i v : Nat} (hi : i < 12) (hv : v < 2 ^ 31) {vq vk : Int32} {D : Nat → Int32} {post : SY → Prop} (hp : post (vq, nI p, vk, upd D i (nI (v % p)))) : wpY_put post (vq, nI p, vk, D) (nI i) (nI v) := by
  have ec : (nI i).toNatClampNeg = i := nI_clamp (by omega)
  have hin : vp_in (nI i) 12 := vp_in_nI hi (by omega)
  rcases hQ with ⟨rfl, rfl, rfl, rfl⟩ | ⟨rfl, rfl, rfl, rfl⟩
  · have e : nI v - nI v / 2 * 2 = nI (v % 2) := pk_rem (d := 2) hv (by decide) (by decide)
    refine br_t rfl ⟨by decide, hin, nm_r ?_ hp⟩
    rw [ec, e]
  · have e : nI v - nI v / 3 * 3 = nI (v % 3) := pk_rem (d := 3) hv (by decide) (by decide)
    refine br_f (by decide) ⟨by decide, hin, nm_r ?_ hp⟩
    rw [ec, e]
theorem fy_times {q p k h : Nat} (hQ : ft_Q q p k h) {a b i j : Nat} (ha : a < 1000) (hb : b < 1000) (hi : i ≤ k) (hj : j ≤ k) {post : Int32 → Prop} (hp : post (nI (a / p ^ i % p * (b / p ^ j % p)))) {vq vk : Int32} {D : Nat → Int32} : wpY_timesAt post (vq, nI p, vk, D) (nI a) (nI b) (nI i) (nI j) := by
  unfold wpY_timesAt
  dsimp only
  refine fy_coef hQ ha hi (fy_coef hQ hb hj ?_)
  rw [pk_mul]
  exact hp
theorem fy_p175 {q p k h : Nat} (hQ : ft_Q q p k h) {E : Nat → Nat} {vq : Int32} {D : Nat → Int32} (hD : ∀ m, m < 12 → D m = nI (E m)) {post : Int32 → SY → Prop} (hp : post (nI (ft_v p E k)) (vq, nI p, nI k, D)) : ∀ d i, i + d = k → ∀ n, d < n → wY_product_175 post vq (nI p) (nI k) D n (nI (ft_v p E i)) (nI i) := by
  have hB := ft_Q_b hQ
  intro d
  induction d with
  | zero =>
    intro i hi n hn
    obtain ⟨m, rfl⟩ : ∃ m, n = m + 1 := ⟨n - 1, by omega⟩
    obtain rfl : i = k := by omega
    exact br_t (nI_le (Nat.le_refl _) (by omega)) hp
  | succ d ih =>
    intro i hi n hn
    obtain ⟨m, rfl⟩ : ∃ m, n = m + 1 := ⟨n - 1, by omega⟩
    have J := ih (i + 1) (by omega) m (by omega)
    refine br_f (nI_ge (by omega) (by omega)) ⟨vp_in_nI (by omega) (by omega), fy_unit (by omega) (nm_r (e' := nI (ft_v p E (i + 1))) ?_ (nm_r (nI_1 i) J))⟩
    rw [nI_clamp (by omega), hD i (by omega), pk_mul, nI_add]
    rfl
theorem fy_p89 {q p k h : Nat} (hQ : ft_Q q p k h) {vq : Int32} {E0 : Nat → Nat} {post : Int32 → SY → Prop} (hp : ∀ D, post (nI (ft_v p (ft_rd p k E0 (12 - k)) k)) (vq, nI p, nI k, D)) : ∀ d x, x + 1 = k + d → x ≤ 11 → ∀ n, d < n → ∀ (D : Nat → Int32) (E : Nat → Nat), (∀ m, m < 12 → D m = nI (E m) ∧ E m < p) → E = ft_rd p k E0 (11 - x) → wY_product_89 post n (nI x) vq (nI p) (nI k) D := by
  have hB := ft_Q_b hQ
  intro d
  induction d with
  | zero =>
    intro x hx hx1 n hn D E hD hE
    obtain ⟨m, rfl⟩ : ∃ m, n = m + 1 := ⟨n - 1, by omega⟩
    have e : 11 - x = 12 - k := by omega
    rw [e] at hE
    refine br_t (nI_lt (by omega) (by omega)) ⟨k + 1, fy_p175 hQ (E := E) (fun m hm => (hD m hm).1) ?_ k 0 (by omega) (k + 1) (by omega)⟩
    rw [hE]
    exact hp D
  | succ d ih =>
    intro x hx hx1 n hn D E hD hE
    obtain ⟨m, rfl⟩ : ∃ m, n = m + 1 := ⟨n - 1, by omega⟩
    have s : nI x - nI k = nI (x - k) := pk_sub (by omega)
    have cx : (nI x).toNatClampNeg = x := nI_clamp (by omega)
    have c0 : (nI (x - k)).toNatClampNeg = x - k := nI_clamp (by omega)
    have c1 : (nI (x - k + 1)).toNatClampNeg = x - k + 1 := nI_clamp (by omega)
    have hx0 := hD x (by omega)
    have h0 := hD (x - k) (by omega)
    have h1 := hD (x - k + 1) (by omega)
    have ix : vp_in (nI x) 12 := vp_in_nI (by omega) (by omega)
    have dn : nI x + (-1) = nI (x - 1) := by
      obtain ⟨y, rfl⟩ : ∃ y, x = y + 1 := ⟨x - 1, by omega⟩
      exact pk_m1 y
    refine br_f (nI_nlt (by omega) (by omega)) ?_
    rw [s, c0, cx, h0.1, hx0.1, nI_add (E (x - k)) (E x)]
    refine ⟨vp_in_nI (by omega) (by omega), ix, fy_put hQ (by omega) (by omega) ?_⟩
    dsimp only
    rw [s, nI_1 (x - k), c1, pk_un (show x - k + 1 ≠ x - k by omega), pk_un (show x ≠ x - k by omega), h1.1, hx0.1, nI_add (E (x - k + 1)) (E x)]
    refine ⟨vp_in_nI (by omega) (by omega), ix, fy_put hQ (by omega) (by omega) ?_⟩
    dsimp only
    refine ⟨ix, nm_e (nm_r dn (ih (x - 1) (by omega) (by omega) m (by omega) _ (ft_rs p k x E) ?_ ?_))⟩
    · intro j hj
      rw [ft_rs_at]
      by_cases j1 : j = x
      · rw [if_pos j1, j1, pk_us]
        exact ⟨rfl, by omega⟩
      · rw [if_neg j1, pk_un j1]
        by_cases j2 : j = x - k + 1
        · rw [if_pos j2, j2, pk_us]
          exact ⟨rfl, Nat.mod_lt _ (by omega)⟩
        · rw [if_neg j2, pk_un j2]
          by_cases j3 : j = x - k
          · rw [if_pos j3, j3, pk_us]
            exact ⟨rfl, Nat.mod_lt _ (by omega)⟩
          · rw [if_neg j3, pk_un j3]
            exact hD j hj
    · have e1 : 11 - (x - 1) = (11 - x) + 1 := by omega
      have e2 : 11 - (11 - x) = x := by omega
      rw [e1, ft_rd_s, e2, ← hE]
theorem fy_p34 {q p k h : Nat} (hQ : ft_Q q p k h) {a b i : Nat} (ha : a < 1000) (hb : b < 1000) (hi : i < k) {vq : Int32} {post : Int32 → SY → Prop} {J : Int32 → Int32 → Int32 → Int32 → (Nat → Int32) → Prop} (hJ : ∀ D : Nat → Int32, (∀ m, m < 12 → D m = nI (ft_cv p k a b m (i + 1) % p)) → J (nI (i + 1)) vq (nI p) (nI k) D) : ∀ d j, j + d = k → ∀ n, d < n → ∀ D : Nat → Int32, (∀ m, m < 12 → D m = nI ((ft_cv p k a b m i + ft_pt p j a b i m) % p)) → wY_product_34 post J (nI a) (nI b) (nI i) n (nI j) vq (nI p) (nI k) D := by
  have hB := ft_Q_b hQ
  have p0 : 0 < p := by omega
  intro d
  induction d with
  | zero =>
    intro j hj n hn D hD
    obtain ⟨m, rfl⟩ : ∃ m, n = m + 1 := ⟨n - 1, by omega⟩
    obtain rfl : j = k := by omega
    exact br_t (nI_le (Nat.le_refl _) (by omega)) (nm_r (nI_1 i) (hJ D hD))
  | succ d ih =>
    intro j hj n hn D hD
    obtain ⟨m, rfl⟩ : ∃ m, n = m + 1 := ⟨n - 1, by omega⟩
    refine br_f (nI_ge (by omega) (by omega)) (fy_times hQ ha hb (by omega) (by omega) ?_)
    have m1 : a / p ^ i % p < p := Nat.mod_lt _ p0
    have m2 : b / p ^ j % p < p := Nat.mod_lt _ p0
    have m3 : a / p ^ i % p * (b / p ^ j % p) < 9 := by
      have : a / p ^ i % p * (b / p ^ j % p) ≤ 2 * 2 := Nat.mul_le_mul (by omega) (by omega)
      omega
    have m4 : (ft_cv p k a b (i + j) i + ft_pt p j a b i (i + j)) % p < p := Nat.mod_lt _ p0
    rw [nI_add i j, nI_clamp (by omega), hD (i + j) (by omega), nI_add]
    refine ⟨vp_in_nI (by omega) (by omega), fy_put hQ (by omega) (by omega) ?_⟩
    dsimp only
    refine nm_r (nI_1 j) (ih (j + 1) (by omega) m (by omega) _ ?_)
    intro l hl
    by_cases e : l = i + j
    · rw [e, pk_us, ft_pt_f (k := j) (show ¬ (i ≤ i + j ∧ i + j - i < j) by omega), ft_pt_t (k := j + 1) (show i ≤ i + j ∧ i + j - i < j + 1 by omega), Nat.add_sub_cancel_left, Nat.add_zero, Nat.mod_add_mod]
    · rw [pk_un e, hD l hl, ft_pt_n e]
theorem fy_p23 {q p k h : Nat} (hQ : ft_Q q p k h) {a b : Nat} (ha : a < 1000) (hb : b < 1000) {vq : Int32} {post : Int32 → SY → Prop} (hF : ∀ D : Nat → Int32, (∀ m, m < 12 → D m = nI (ft_cv p k a b m k % p)) → ∃ n, wY_product_89 post n 11 vq (nI p) (nI k) D) : ∀ d i, i + d = k → ∀ n, d < n → ∀ D : Nat → Int32, (∀ m, m < 12 → D m = nI (ft_cv p k a b m i % p)) → wY_product_23 post (nI a) (nI b) n (nI i) vq (nI p) (nI k) D := by
  have hB := ft_Q_b hQ
  intro d
  induction d with
  | zero =>
    intro i hi n hn D hD
    obtain ⟨m, rfl⟩ : ∃ m, n = m + 1 := ⟨n - 1, by omega⟩
    obtain rfl : i = k := by omega
    exact br_t (nI_le (Nat.le_refl _) (by omega)) (hF D hD)
  | succ d ih =>
    intro i hi n hn D hD
    obtain ⟨m, rfl⟩ : ∃ m, n = m + 1 := ⟨n - 1, by omega⟩
    refine br_f (nI_ge (by omega) (by omega)) ⟨k + 1, fy_p34 hQ ha hb (by omega) (fun D' h' => ih (i + 1) (by omega) m (by omega) D' h') k 0 (by omega) (k + 1) (by omega) D ?_⟩
    intro l hl
    rw [hD l hl, ft_pt_f (k := 0) (by omega), Nat.add_zero]
theorem fy_p2 {q p k h : Nat} (_hQ : ft_Q q p k h) {a b : Nat} {vq : Int32} {post : Int32 → SY → Prop} (hG : ∀ D : Nat → Int32, (∀ m, m < 12 → D m = 0) → ∃ n, wY_product_23 post (nI a) (nI b) n 0 vq (nI p) (nI k) D) : ∀ d i, i + d = 12 → ∀ n, d < n → ∀ D : Nat → Int32, (∀ m, m < i → D m = 0) → wY_product_2 post (nI a) (nI b) vq (nI p) (nI k) n (nI i) D := by
  intro d
  induction d with
  | zero =>
    intro i hi n hn D hD
    obtain ⟨m, rfl⟩ : ∃ m, n = m + 1 := ⟨n - 1, by omega⟩
    obtain rfl : i = 12 := by omega
    exact br_t (nI_le (Nat.le_refl 12) (by omega)) (hG D hD)
  | succ d ih =>
    intro i hi n hn D hD
    obtain ⟨m, rfl⟩ : ∃ m, n = m + 1 := ⟨n - 1, by omega⟩
    refine br_f (nI_ge (a := i) (b := 12) (by omega) (by omega)) ⟨vp_in_nI (by omega) (by omega), nm_e (nm_r (nI_1 i) (ih (i + 1) (by omega) m (by omega) _ ?_))⟩
    rw [nI_clamp (by omega)]
    intro l hl
    by_cases e : l = i
    · rw [e, pk_us]
    · rw [pk_un e]; exact hD l (by omega)
theorem fy_product {q p k h : Nat} (hQ : ft_Q q p k h) {a b : Nat} (ha : a < q) (hb : b < q) {vq : Int32} {D : Nat → Int32} {post : Int32 → SY → Prop} (hp : ∀ D', post (nI (ft_ml q a b)) (vq, nI p, nI k, D')) : wpY_product post (vq, nI p, nI k, D) (nI a) (nI b) := by
  have hB := ft_Q_b hQ
  have hp' : ∀ D', post (nI (ft_v p (ft_rd p k (ft_D p k a b) (12 - k)) k)) (vq, nI p, nI k, D') := by
    have e : ft_v p (ft_rd p k (ft_D p k a b) (12 - k)) k = ft_ml q a b := ft_yM_e hQ ha hb
    rw [e]
    exact hp
  refine ⟨13, fy_p2 hQ ?_ 12 0 rfl 13 (by omega) D (fun m hm => absurd hm (Nat.not_lt_zero m))⟩
  intro D1 h1
  refine ⟨k + 1, fy_p23 hQ (by omega) (by omega) ?_ k 0 (by omega) (k + 1) (by omega) D1 ?_⟩
  · intro D2 h2
    exact ⟨13 - k + 1, fy_p89 hQ hp' (12 - k) 11 (by omega) (by omega) (13 - k + 1) (by omega) D2 (ft_D p k a b) (fun m hm => ⟨h2 m hm, Nat.mod_lt _ (by omega)⟩) rfl⟩
  · intro m hm
    rw [h1 m hm]
    show (0 : Int32) = nI (0 % p)
    rw [Nat.zero_mod, nI_0]
theorem fy_raised_l {q p k h : Nat} (hQ : ft_Q q p k h) {a n : Nat} (ha : a < q) (hn : n < 2 ^ 20) {vq : Int32} {post : Int32 → SY → Prop} (hp : ∀ D', post (nI (ft_pw q a n)) (vq, nI p, nI k, D')) : ∀ d i, i + d = 20 → ∀ m, d < m → ∀ D : Nat → Int32, wY_raised_8 post (nI n) m (nI (ft_rr q a n i)) (nI (ft_sq q a i)) (nI i) vq (nI p) (nI k) D := by
  intro d
  induction d with
  | zero =>
    intro i hi m hm D
    obtain ⟨m, rfl⟩ : ∃ x, m = x + 1 := ⟨m - 1, by omega⟩
    obtain rfl : i = 20 := by omega
    exact br_t (nI_le (Nat.le_refl 20) (by omega)) (hp D)
  | succ d ih =>
    intro i hi m hm D
    obtain ⟨m, rfl⟩ : ∃ x, m = x + 1 := ⟨m - 1, by omega⟩
    have hs := ft_shr hn (show i < 20 by omega)
    have hd : n / 2 ^ i ≤ n := Nat.div_le_self _ _
    have hm2 : n / 2 ^ i % 2 < 2 := Nat.mod_lt _ (by decide)
    have J := ih (i + 1) (by omega) m (by omega)
    have S := ft_sq_q hQ ha i
    refine br_f (nI_ge (a := i) (b := 20) (by omega) (by omega)) ?_
    rw [hs, ft_bit (by omega)]
    by_cases c : n / 2 ^ i % 2 = 1
    · rw [ft_rr_1 c] at J
      rw [c]
      exact br_t rfl (fy_product hQ (ft_rr_q hQ ha n i) S (fun D1 => fy_product hQ S S (fun D2 => nm_r (nI_1 i) (J D2))))
    · rw [ft_rr_0 c] at J
      have c0 : n / 2 ^ i % 2 = 0 := by omega
      rw [c0]
      exact br_f (by decide) (fy_product hQ S S (fun D2 => nm_r (nI_1 i) (J D2)))
theorem fy_raised {q p k h : Nat} (hQ : ft_Q q p k h) {a n : Nat} (ha : a < q) (hn : n < 2 ^ 20) {vq : Int32} {D : Nat → Int32} {post : Int32 → SY → Prop} (hp : ∀ D', post (nI (ft_pw q a n)) (vq, nI p, nI k, D')) : wpY_raised post (vq, nI p, nI k, D) (nI a) (nI n) :=
  ⟨21, fy_raised_l hQ ha hn hp 20 0 rfl 21 (by omega) D⟩
