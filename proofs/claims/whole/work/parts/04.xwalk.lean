/- the component's own methods, each against its picture -/
theorem ft_z0 : nI 0 ≤ 0 := by decide
theorem fx_base {q p k h : Nat} (hQ : ft_Q q p k h) {post : Int32 → Prop} (hp : post (nI p)) : wpX_base post (nI q) := by
  rcases hQ with ⟨rfl, rfl, rfl, rfl⟩ | ⟨rfl, rfl, rfl, rfl⟩
  · exact br_f (by decide) hp
  · exact br_t rfl hp
theorem fx_deg {q p k h : Nat} (hQ : ft_Q q p k h) {post : Int32 → Prop} (hp : post (nI k)) : wpX_degree post (nI q) := by
  rcases hQ with ⟨rfl, rfl, rfl, rfl⟩ | ⟨rfl, rfl, rfl, rfl⟩
  · exact br_f (by decide) hp
  · exact br_t rfl hp
theorem fx_sum_l {q p k h : Nat} (hQ : ft_Q q p k h) {a b : Nat} (ha : a < 1000) (hb : b < 1000) {post : Int32 → Prop} (hp : post (nI (ft_S p a b k))) (z : Int32) : ∀ d i, i + d = k → ∀ n, d < n → wX_sum_26 post (nI p) (nI k) z n (nI (a / p ^ i)) (nI (b / p ^ i)) (nI (p ^ i)) (nI (ft_S p a b i)) (nI i) := by
  have hB := ft_Q_b hQ
  intro d
  induction d with
  | zero =>
    intro i hi n hn
    obtain ⟨m, rfl⟩ : ∃ m, n = m + 1 := ⟨n - 1, by omega⟩
    obtain rfl : i = k := by omega
    exact br_t (nI_le (Nat.le_refl _) (by omega)) hp
  | succ d ih =>
    intro i hi n hn
    obtain ⟨m, rfl⟩ : ∃ m, n = m + 1 := ⟨n - 1, by omega⟩
    have p0 : 0 < p := by omega
    have p31 : p < 2 ^ 31 := by omega
    have hp0 : ¬ nI p = 0 := nI_ne0 p0 p31
    have h1 : a / p ^ i < 2 ^ 31 := Nat.lt_of_le_of_lt (Nat.div_le_self _ _) (by omega)
    have h2 : b / p ^ i < 2 ^ 31 := Nat.lt_of_le_of_lt (Nat.div_le_self _ _) (by omega)
    have m1 : a / p ^ i % p < p := Nat.mod_lt _ p0
    have m2 : b / p ^ i % p < p := Nat.mod_lt _ p0
    have h3 : a / p ^ i % p + b / p ^ i % p < 2 ^ 31 := by omega
    refine br_f (nI_ge (by omega) (by omega)) ⟨hp0, hp0, hp0, nm_r (e' := nI (ft_S p a b (i + 1))) ?_ ⟨hp0, nm_r (e' := nI (a / p ^ (i + 1))) ?_ ⟨hp0, nm_r (e' := nI (b / p ^ (i + 1))) ?_ (nm_r (e' := nI (p ^ (i + 1))) ?_ (nm_r (nI_1 i) (ih (i + 1) (by omega) m (by omega))))⟩⟩⟩
    · rw [pk_rem h1 p0 p31, pk_rem h2 p0 p31, nI_add, pk_rem h3 p0 p31, pk_mul, nI_add]
      rfl
    · rw [pk_div h1 p0 p31, Nat.div_div_eq_div_mul, Nat.pow_succ]
    · rw [pk_div h2 p0 p31, Nat.div_div_eq_div_mul, Nat.pow_succ]
    · rw [pk_mul, Nat.pow_succ]
theorem fx_sum {q p k h : Nat} (hQ : ft_Q q p k h) {a b : Nat} (ha : a < 1000) (hb : b < 1000) {post : Int32 → Prop} (hp : post (nI (ft_S p a b k))) : wpX_sum post (nI q) (nI a) (nI b) := by
  have e := fx_sum_l hQ ha hb hp (nI q) k 0 (by omega) (k + 1) (by omega)
  rw [Nat.pow_zero, Nat.div_one, Nat.div_one] at e
  unfold wpX_sum
  exact fx_base hQ (fx_deg hQ ⟨k + 1, e⟩)
theorem fx_p50 {q p k h : Nat} (hQ : ft_Q q p k h) {s y i : Nat} (hs : s < q) (hy : y < 1000) {post : Int32 → Prop} {J : Int32 → Int32 → Int32 → Int32 → Prop} : ∀ c t n, t < q → c < 3 → c < n → J (nI (ft_t p k h s)) (nI (y / p)) (nI (ft_an p k s t c)) (nI (i + 1)) → wX_product_50 post J (nI p) (nI k) (nI h) (nI s) (nI y) (nI i) (nI q) n (nI t) (nI c) := by
  have hB := ft_Q_b hQ
  have p0 : 0 < p := by omega
  have p31 : p < 2 ^ 31 := by omega
  have h0 : 0 < h := by omega
  have h31 : h < 2 ^ 31 := by omega
  have s31 : s < 2 ^ 31 := by omega
  have y31 : y < 2 ^ 31 := by omega
  intro c
  induction c with
  | zero =>
    intro t n ht _ hn hJ
    obtain ⟨m, rfl⟩ : ∃ m, n = m + 1 := ⟨n - 1, by omega⟩
    have e1 : (nI s - nI s / nI h * nI h) * nI p = nI (s % h * p) := by rw [pk_rem s31 h0 h31, pk_mul]
    have e2 : nI (s / h) * (nI p + 1) = nI (s / h * (p + 1)) := by rw [nI_1, pk_mul]
    have b1 : s % h * p < 1000 ∧ s / h * (p + 1) < 1000 := by
      rcases hQ with ⟨rfl, rfl, rfl, rfl⟩ | ⟨rfl, rfl, rfl, rfl⟩ <;> omega
    refine br_t ft_z0 ⟨nI_ne0 p0 p31, nm_r (pk_div y31 p0 p31) ⟨nI_ne0 h0 h31, nm_r (pk_div s31 h0 h31) ⟨nI_ne0 h0 h31, ?_⟩⟩⟩
    rw [e1, e2]
    exact fx_sum hQ b1.1 b1.2 (nm_r (nI_1 i) hJ)
  | succ c ih =>
    intro t n ht hc hn hJ
    obtain ⟨m, rfl⟩ : ∃ m, n = m + 1 := ⟨n - 1, by omega⟩
    refine br_f (nI_nle (by omega) (by omega)) (fx_sum hQ (by omega) (by omega) (nm_r (pk_m1 c) (ih _ m (ft_S_q hQ _ _) (by omega) (by omega) ?_)))
    rw [ft_an_t]
    exact hJ
theorem fx_p37 {q p k h : Nat} (hQ : ft_Q q p k h) {a b : Nat} (ha : a < q) (hb : b < q) {post : Int32 → Prop} (hp : post (nI (ft_tot p k h a b k))) : ∀ d i, i + d = k → ∀ n, d < n → wX_product_37 post (nI p) (nI k) (nI h) (nI q) n (nI (ft_sh p k h a i)) (nI (b / p ^ i)) (nI (ft_tot p k h a b i)) (nI i) := by
  have hB := ft_Q_b hQ
  have p0 : 0 < p := by omega
  have p31 : p < 2 ^ 31 := by omega
  intro d
  induction d with
  | zero =>
    intro i hi n hn
    obtain ⟨m, rfl⟩ : ∃ m, n = m + 1 := ⟨n - 1, by omega⟩
    obtain rfl : i = k := by omega
    exact br_t (nI_le (Nat.le_refl _) (by omega)) hp
  | succ d ih =>
    intro i hi n hn
    obtain ⟨m, rfl⟩ : ∃ m, n = m + 1 := ⟨n - 1, by omega⟩
    have h1 : b / p ^ i ≤ b := Nat.div_le_self _ _
    have m1 : b / p ^ i % p < p := Nat.mod_lt _ p0
    have e : b / p ^ (i + 1) = b / p ^ i / p := by rw [Nat.div_div_eq_div_mul, Nat.pow_succ]
    have j := ih (i + 1) (by omega) m (by omega)
    rw [e] at j
    exact br_f (nI_ge (by omega) (by omega)) ⟨nI_ne0 p0 p31, nm_r (pk_rem (by omega) p0 p31) ⟨_, fx_p50 hQ (ft_sh_q hQ ha i) (by omega) _ _ _ (ft_tot_q hQ a b i) (by omega) (Nat.lt_succ_self _) j⟩⟩
theorem fx_product {q p k h : Nat} (hQ : ft_Q q p k h) {a b : Nat} (ha : a < q) (hb : b < q) {post : Int32 → Prop} (hp : post (nI (ft_ml q a b))) : wpX_product post (nI q) (nI a) (nI b) := by
  have H : ∃ n, wX_product_37 post (nI p) (nI k) (nI h) (nI q) n (nI a) (nI b) 0 0 := by
    have e := fx_p37 hQ ha hb (post := post) (by rw [ft_xM hQ ha hb]; exact hp) k 0 (by omega) (k + 1) (by omega)
    rw [Nat.pow_zero, Nat.div_one] at e
    exact ⟨k + 1, e⟩
  unfold wpX_product
  refine fx_base hQ (fx_deg hQ ?_)
  rcases hQ with ⟨rfl, rfl, rfl, rfl⟩ | ⟨rfl, rfl, rfl, rfl⟩
  · exact br_f (by decide) H
  · exact br_t rfl H
theorem ft_shr {n i : Nat} (hn : n < 2 ^ 20) (hi : i < 20) : nI n >>> (nI i &&& 31) = nI (n / 2 ^ i) := pk_shrN (by omega) _ i (s_l i (by omega))
theorem ft_bit {m : Nat} (hm : m < 2 ^ 20) : nI m &&& 1 = nI (m % 2) := pk_andN (by omega) 1 (by decide)
theorem fx_raise_l {q p k h : Nat} (hQ : ft_Q q p k h) {a n : Nat} (ha : a < q) (hn : n < 2 ^ 20) {post : Int32 → Prop} (hp : post (nI (ft_pw q a n))) : ∀ d i, i + d = 20 → ∀ m, d < m → wX_raise_8 post (nI n) (nI q) m (nI (ft_rr q a n i)) (nI (ft_sq q a i)) (nI i) := by
  have hB := ft_Q_b hQ
  intro d
  induction d with
  | zero =>
    intro i hi m hm
    obtain ⟨m, rfl⟩ : ∃ x, m = x + 1 := ⟨m - 1, by omega⟩
    obtain rfl : i = 20 := by omega
    exact br_t (nI_le (Nat.le_refl 20) (by omega)) hp
  | succ d ih =>
    intro i hi m hm
    obtain ⟨m, rfl⟩ : ∃ x, m = x + 1 := ⟨m - 1, by omega⟩
    have hs := ft_shr hn (show i < 20 by omega)
    have hd : n / 2 ^ i ≤ n := Nat.div_le_self _ _
    have hm2 : n / 2 ^ i % 2 < 2 := Nat.mod_lt _ (by decide)
    have J := ih (i + 1) (by omega) m (by omega)
    have S := ft_sq_q hQ ha i
    refine br_f (nI_ge (a := i) (b := 20) (by omega) (by omega)) ?_
    rw [hs]
    by_cases z : n / 2 ^ i = 0
    · have w := ft_rr_z (q := q) (a := a) z (d + 1)
      rw [hi] at w
      rw [z]
      refine br_t ft_z0 ?_
      rw [← w]
      exact hp
    · refine br_f (nI_nle (Nat.pos_of_ne_zero z) (by omega)) ?_
      rw [ft_bit (by omega)]
      by_cases c : n / 2 ^ i % 2 = 1
      · rw [ft_rr_1 c] at J
        rw [c]
        exact br_t rfl (fx_product hQ (ft_rr_q hQ ha n i) S (fx_product hQ S S (nm_r (nI_1 i) J)))
      · rw [ft_rr_0 c] at J
        have c0 : n / 2 ^ i % 2 = 0 := by omega
        rw [c0]
        exact br_f (by decide) (fx_product hQ S S (nm_r (nI_1 i) J))
theorem fx_raise {q p k h : Nat} (hQ : ft_Q q p k h) {a n : Nat} (ha : a < q) (hn : n < 2 ^ 20) {post : Int32 → Prop} (hp : post (nI (ft_pw q a n))) : wpX_raise post (nI q) (nI a) (nI n) :=
  ⟨21, fx_raise_l hQ ha hn hp 20 0 rfl 21 (by omega)⟩
