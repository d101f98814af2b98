/- guards, searches: both sides side by side -/
theorem ft_10 : ¬ (1 : Int32) = 0 := by decide
theorem ft_ix (x : Int32) {q : Nat} (hq : q < 2 ^ 31) : (x < 0 ∨ nI q ≤ x) ∨ ∃ a, a < q ∧ x = nI a := by
  rcases pk_ix x hq with h | h | h
  · exact Or.inl (Or.inl h)
  · exact Or.inl (Or.inr h)
  · exact Or.inr h
theorem fx_el_ok {q a : Nat} (hq : q < 2 ^ 31) (ha : a < q) {post : Int32 → Prop} (hp : post 1) : wpX_isElement post (nI q) (nI a) :=
  br_f (nI_pos (by omega)) (br_f (nI_ge ha hq) hp)
theorem fx_el_no {q : Nat} {x : Int32} (hx : x < 0 ∨ nI q ≤ x) {post : Int32 → Prop} (hp : post 0) : wpX_isElement post (nI q) x :=
  br_c (fun _ => hp) (fun hn => br_t (hx.resolve_left hn) hp)
theorem fx_un_ok {q a : Nat} (hq : q < 2 ^ 31) (ha : a < q) (h0 : 0 < a) {post : Int32 → Prop} (hp : post 1) : wpX_isUnit post (nI q) (nI a) :=
  br_f (nI_nle h0 (by omega)) (br_f (nI_ge ha hq) hp)
theorem fx_un_no {q : Nat} {x : Int32} (hx : x < 0 ∨ nI q ≤ x) {post : Int32 → Prop} (hp : post 0) : wpX_isUnit post (nI q) x :=
  br_c (fun _ => hp) (fun hn => br_t (hx.resolve_left (fun h => hn (Int32.le_of_lt h))) hp)
theorem fx_un_0 {q : Nat} {post : Int32 → Prop} (hp : post 0) : wpX_isUnit post (nI q) (nI 0) :=
  br_t ft_z0 hp
theorem fy_bad_ok {q a : Nat} (hq : q < 2 ^ 31) (ha : a < q) {vp vk : Int32} {D : Nat → Int32} {post : Int32 → Prop} (hp : post 0) : wpY_bad post (nI q, vp, vk, D) (nI a) :=
  br_f (nI_pos (by omega)) (br_t (nI_lt ha hq) hp)
theorem fy_bad_no {q : Nat} {x : Int32} (hx : x < 0 ∨ nI q ≤ x) {vp vk : Int32} {D : Nat → Int32} {post : Int32 → Prop} (hp : post 1) : wpY_bad post (nI q, vp, vk, D) x :=
  br_c (fun _ => hp) (fun hn => br_f (Int32.not_lt.mpr (hx.resolve_left hn)) hp)
/- invert: the search finds the power q - 2, and for 0 nothing -/
theorem fy_inv_l {q p k h : Nat} (hQ : ft_Q q p k h) {a : Nat} (ha : a < q) (h0 : 0 < a) {post : Int32 → SY → Prop} (hp : ∀ D', post (nI (ft_pw q a (q - 2))) (nI q, nI p, nI k, D')) : ∀ d i, i + d = ft_pw q a (q - 2) → ∀ n, d < n → ∀ D : Nat → Int32, wY_invert_12 post (nI a) n (nI i) (nI q) (nI p) (nI k) D := by
  have hB := ft_Q_b hQ
  have hP := ft_pw_q hQ ha (q - 2)
  intro d
  induction d with
  | zero =>
    intro i hi n hn D
    obtain ⟨m, rfl⟩ : ∃ m, n = m + 1 := ⟨n - 1, by omega⟩
    obtain rfl : i = ft_pw q a (q - 2) := by omega
    refine br_f (nI_ge hP (by omega)) (fy_product hQ ha hP (fun D' => br_t ?_ (hp D')))
    rw [ft_inv2 hQ ha h0]
    rfl
  | succ d ih =>
    intro i hi n hn D
    obtain ⟨m, rfl⟩ : ∃ m, n = m + 1 := ⟨n - 1, by omega⟩
    have hiq : i < q := by omega
    have hm := ft_ml_q hQ ha hiq
    have ne : ¬ nI (ft_ml q a i) = 1 := fun e => by
      have e1 := (nI_eq (b := 1) (by omega) (by omega)).mp e
      have e2 := ft_inv1 hQ ha hiq e1
      omega
    exact br_f (nI_ge hiq (by omega)) (fy_product hQ ha hiq (fun D' => br_f ne (nm_r (nI_1 i) (ih (i + 1) (by omega) m (by omega) D'))))
theorem fy_inv_0 {q p k h : Nat} (hQ : ft_Q q p k h) {post : Int32 → SY → Prop} (hp : ∀ D', post (-1) (nI q, nI p, nI k, D')) : ∀ d i, i + d = q → ∀ n, d < n → ∀ D : Nat → Int32, wY_invert_12 post (nI 0) n (nI i) (nI q) (nI p) (nI k) D := by
  have hB := ft_Q_b hQ
  intro d
  induction d with
  | zero =>
    intro i hi n hn D
    obtain ⟨m, rfl⟩ : ∃ m, n = m + 1 := ⟨n - 1, by omega⟩
    exact br_t (nI_le (by omega) (by omega)) (hp D)
  | succ d ih =>
    intro i hi n hn D
    obtain ⟨m, rfl⟩ : ∃ m, n = m + 1 := ⟨n - 1, by omega⟩
    have hiq : i < q := by omega
    have ne : ¬ nI (ft_ml q 0 i) = 1 := by
      rw [ft_nul hQ hiq]
      decide
    exact br_f (nI_ge hiq (by omega)) (fy_product hQ (by omega) hiq (fun D' => br_f ne (nm_r (nI_1 i) (ih (i + 1) (by omega) m (by omega) D'))))
/- order -/
theorem fo_order {q p k h : Nat} (hQ : ft_Q q p k h) {a : Nat} (ha : a < q) (h0 : 0 < a) : ∀ d i, i + d = q - 1 → ∃ r : Int32, (∀ post : Int32 → Prop, post r → ∀ n, d < n → wX_order_14 post (nI a) (nI q) n (nI (ft_it q a i)) (nI i)) ∧ (∀ post : Int32 → SY → Prop, (∀ D', post r (nI q, nI p, nI k, D')) → ∀ n, d < n → ∀ D : Nat → Int32, wY_order_18 post (nI a) n (nI (ft_it q a i)) (nI i) (nI q) (nI p) (nI k) D) := by
  have hB := ft_Q_b hQ
  intro d
  induction d with
  | zero =>
    intro i hi
    have e : ft_it q a i = 1 := by
      rw [show i = q - 1 by omega]
      exact ft_ord hQ ha h0
    refine ⟨nI i, ?_, ?_⟩
    · intro post hp n hn
      obtain ⟨m, rfl⟩ : ∃ m, n = m + 1 := ⟨n - 1, by omega⟩
      rw [e]
      exact br_t rfl hp
    · intro post hp n hn D
      obtain ⟨m, rfl⟩ : ∃ m, n = m + 1 := ⟨n - 1, by omega⟩
      rw [e]
      exact br_t rfl (hp D)
  | succ d ih =>
    intro i hi
    have hI := ft_it_q hQ ha i
    by_cases c : ft_it q a i = 1
    · refine ⟨nI i, ?_, ?_⟩
      · intro post hp n hn
        obtain ⟨m, rfl⟩ : ∃ m, n = m + 1 := ⟨n - 1, by omega⟩
        rw [c]
        exact br_t rfl hp
      · intro post hp n hn D
        obtain ⟨m, rfl⟩ : ∃ m, n = m + 1 := ⟨n - 1, by omega⟩
        rw [c]
        exact br_t rfl (hp D)
    · have ne : ¬ nI (ft_it q a i) = 1 := fun e => c ((nI_eq (b := 1) (by omega) (by omega)).mp e)
      obtain ⟨r, hX, hY⟩ := ih (i + 1) (by omega)
      refine ⟨r, ?_, ?_⟩
      · intro post hp n hn
        obtain ⟨m, rfl⟩ : ∃ m, n = m + 1 := ⟨n - 1, by omega⟩
        exact br_f ne (br_f (nI_ge (by omega) (by omega)) (fx_product hQ hI ha (nm_r (nI_1 i) (hX post hp m (by omega)))))
      · intro post hp n hn D
        obtain ⟨m, rfl⟩ : ∃ m, n = m + 1 := ⟨n - 1, by omega⟩
        exact br_f ne (br_f (nI_ge (a := i) (b := 100) (by omega) (by omega)) (fy_product hQ hI ha (fun D' => nm_r (nI_1 i) (hY post hp m (by omega) D'))))
/- root -/
theorem fo_root {q p k h : Nat} (hQ : ft_Q q p k h) {a : Nat} (ha : a < q) : ∀ d i, i + d = q → ∃ r : Int32, (∀ post : Int32 → Prop, post r → ∀ n, d < n → wX_root_12 post (nI a) (nI q) n (nI i)) ∧ (∀ post : Int32 → SY → Prop, (∀ D', post r (nI q, nI p, nI k, D')) → ∀ n, d < n → ∀ D : Nat → Int32, wY_root_12 post (nI a) n (nI i) (nI q) (nI p) (nI k) D) := by
  have hB := ft_Q_b hQ
  intro d
  induction d with
  | zero =>
    intro i hi
    refine ⟨-1, ?_, ?_⟩
    · intro post hp n hn
      obtain ⟨m, rfl⟩ : ∃ m, n = m + 1 := ⟨n - 1, by omega⟩
      exact br_t (nI_le (by omega) (by omega)) hp
    · intro post hp n hn D
      obtain ⟨m, rfl⟩ : ∃ m, n = m + 1 := ⟨n - 1, by omega⟩
      exact br_t (nI_le (by omega) (by omega)) (hp D)
  | succ d ih =>
    intro i hi
    have hiq : i < q := by omega
    have hM := ft_ml_q hQ hiq hiq
    by_cases c : ft_ml q i i = a
    · refine ⟨nI i, ?_, ?_⟩
      · intro post hp n hn
        obtain ⟨m, rfl⟩ : ∃ m, n = m + 1 := ⟨n - 1, by omega⟩
        exact br_f (nI_ge hiq (by omega)) (fx_product hQ hiq hiq (br_t (congrArg nI c) hp))
      · intro post hp n hn D
        obtain ⟨m, rfl⟩ : ∃ m, n = m + 1 := ⟨n - 1, by omega⟩
        exact br_f (nI_ge hiq (by omega)) (fy_product hQ hiq hiq (fun D' => br_t (congrArg nI c) (hp D')))
    · have ne : ¬ nI (ft_ml q i i) = nI a := fun e => c ((nI_eq (by omega) (by omega)).mp e)
      obtain ⟨r, hX, hY⟩ := ih (i + 1) (by omega)
      refine ⟨r, ?_, ?_⟩
      · intro post hp n hn
        obtain ⟨m, rfl⟩ : ∃ m, n = m + 1 := ⟨n - 1, by omega⟩
        exact br_f (nI_ge hiq (by omega)) (fx_product hQ hiq hiq (br_f ne (nm_r (nI_1 i) (hX post hp m (by omega)))))
      · intro post hp n hn D
        obtain ⟨m, rfl⟩ : ∃ m, n = m + 1 := ⟨n - 1, by omega⟩
        exact br_f (nI_ge hiq (by omega)) (fy_product hQ hiq hiq (fun D' => br_f ne (nm_r (nI_1 i) (hY post hp m (by omega) D'))))
/- roots -/
theorem fo_roots {q p k h : Nat} (hQ : ft_Q q p k h) {a e : Nat} (ha : a < q) (he : e < 2 ^ 20) : ∀ d i, i + d = q → ∀ c : Int32, ∃ r : Int32, (∀ post : Int32 → Prop, post r → ∀ n, d < n → wX_roots_26 post (nI a) (nI e) (nI q) n c (nI i)) ∧ (∀ post : Int32 → SY → Prop, (∀ D', post r (nI q, nI p, nI k, D')) → ∀ n, d < n → ∀ D : Nat → Int32, wY_roots_26 post (nI a) (nI e) n c (nI i) (nI q) (nI p) (nI k) D) := by
  have hB := ft_Q_b hQ
  intro d
  induction d with
  | zero =>
    intro i hi c
    refine ⟨c, ?_, ?_⟩
    · intro post hp n hn
      obtain ⟨m, rfl⟩ : ∃ m, n = m + 1 := ⟨n - 1, by omega⟩
      exact br_t (nI_le (by omega) (by omega)) hp
    · intro post hp n hn D
      obtain ⟨m, rfl⟩ : ∃ m, n = m + 1 := ⟨n - 1, by omega⟩
      exact br_t (nI_le (by omega) (by omega)) (hp D)
  | succ d ih =>
    intro i hi c
    have hiq : i < q := by omega
    have hM := ft_pw_q hQ hiq e
    by_cases w : ft_pw q i e = a
    · obtain ⟨r, hX, hY⟩ := ih (i + 1) (by omega) (c + 1)
      refine ⟨r, ?_, ?_⟩
      · intro post hp n hn
        obtain ⟨m, rfl⟩ : ∃ m, n = m + 1 := ⟨n - 1, by omega⟩
        exact br_f (nI_ge hiq (by omega)) (fx_raise hQ hiq he (br_t (congrArg nI w) (nm_e (nm_r (nI_1 i) (hX post hp m (by omega))))))
      · intro post hp n hn D
        obtain ⟨m, rfl⟩ : ∃ m, n = m + 1 := ⟨n - 1, by omega⟩
        exact br_f (nI_ge hiq (by omega)) (fy_raised hQ hiq he (fun D' => br_t (congrArg nI w) (nm_e (nm_r (nI_1 i) (hY post hp m (by omega) D')))))
    · have ne : ¬ nI (ft_pw q i e) = nI a := fun z => w ((nI_eq (by omega) (by omega)).mp z)
      obtain ⟨r, hX, hY⟩ := ih (i + 1) (by omega) c
      refine ⟨r, ?_, ?_⟩
      · intro post hp n hn
        obtain ⟨m, rfl⟩ : ∃ m, n = m + 1 := ⟨n - 1, by omega⟩
        exact br_f (nI_ge hiq (by omega)) (fx_raise hQ hiq he (br_f ne (nm_r (nI_1 i) (hX post hp m (by omega)))))
      · intro post hp n hn D
        obtain ⟨m, rfl⟩ : ∃ m, n = m + 1 := ⟨n - 1, by omega⟩
        exact br_f (nI_ge hiq (by omega)) (fy_raised hQ hiq he (fun D' => br_f ne (nm_r (nI_1 i) (hY post hp m (by omega) D'))))
/- the steps from s up to q -/
theorem fo_steps {q p k h : Nat} (hQ : ft_Q q p k h) (x : Int32) : ∃ t : Nat, t ≤ 6 ∧ (∀ post : Int32 → Prop, post (nI t) → wpX_stepsUpFrom post (nI q) x) ∧ (∀ (post : Int32 → Prop) (vp vk : Int32) (D : Nat → Int32), post (nI t) → wpY_steps post (nI q, vp, vk, D) x) ∧ (t ≠ 0 → ∃ s, s < 100 ∧ x = nI s) := by
  rcases hQ with ⟨rfl, rfl, rfl, rfl⟩ | ⟨rfl, rfl, rfl, rfl⟩
  · by_cases c1 : x = 64
    · subst c1
      exact ⟨1, by omega, fun post hp => br_t rfl hp, fun post vp vk D hp => br_t rfl (br_f (by decide) (br_f (by decide) (br_f (by decide) (br_t rfl hp)))), fun _ => ⟨64, by omega, rfl⟩⟩
    · have d1 : ¬ x = nI 64 := c1
      have d2 : ¬ nI 64 = 81 := by decide
      by_cases c2 : x = 2
      · exact ⟨6, by omega, fun post hp => br_f d1 (br_f d2 (br_t c2 hp)), fun post vp vk D hp => br_t rfl (br_t c2 hp), fun _ => ⟨2, by omega, c2⟩⟩
      · by_cases c3 : x = 4
        · exact ⟨3, by omega, fun post hp => br_f d1 (br_f d2 (br_f c2 (br_t c3 hp))), fun post vp vk D hp => br_t rfl (br_f c2 (br_t c3 hp)), fun _ => ⟨4, by omega, c3⟩⟩
        · by_cases c4 : x = 8
          · exact ⟨2, by omega, fun post hp => br_f d1 (br_f d2 (br_f c2 (br_f c3 (br_t c4 hp)))), fun post vp vk D hp => br_t rfl (br_f c2 (br_f c3 (br_t c4 hp))), fun _ => ⟨8, by omega, c4⟩⟩
          · exact ⟨0, by omega, fun post hp => br_f d1 (br_f d2 (br_f c2 (br_f c3 (br_f c4 hp)))), fun post vp vk D hp => br_t rfl (br_f c2 (br_f c3 (br_f c4 (br_f c1 hp)))), fun z => absurd rfl z⟩
  · have d3 : ¬ nI 81 = 64 := by decide
    by_cases c1 : x = 81
    · subst c1
      exact ⟨1, by omega, fun post hp => br_t rfl hp, fun post vp vk D hp => br_f d3 (br_f (by decide) (br_f (by decide) (br_t rfl hp))), fun _ => ⟨81, by omega, rfl⟩⟩
    · have d1 : ¬ x = nI 81 := c1
      by_cases c2 : x = 3
      · exact ⟨4, by omega, fun post hp => br_f d1 (br_t rfl (br_t c2 hp)), fun post vp vk D hp => br_f d3 (br_t c2 hp), fun _ => ⟨3, by omega, c2⟩⟩
      · by_cases c3 : x = 9
        · exact ⟨2, by omega, fun post hp => br_f d1 (br_t rfl (br_f c2 (br_t c3 hp))), fun post vp vk D hp => br_f d3 (br_f c2 (br_t c3 hp)), fun _ => ⟨9, by omega, c3⟩⟩
        · exact ⟨0, by omega, fun post hp => br_f d1 (br_t rfl (br_f c2 (br_f c3 hp))), fun post vp vk D hp => br_f d3 (br_f c2 (br_f c3 (br_f c1 hp))), fun z => absurd rfl z⟩
/- trace -/
theorem fo_trace {q p k h : Nat} (hQ : ft_Q q p k h) {s t : Nat} (hs : s < 2 ^ 20) (ht : t ≤ 6) (hY : ∀ (post : Int32 → Prop) (vp vk : Int32) (D : Nat → Int32), post (nI t) → wpY_steps post (nI q, vp, vk, D) (nI s)) : ∀ d i, i + d = t → ∀ x y, x < q → y < q → ∃ r : Int32, (∀ post : Int32 → Prop, post r → ∀ n, d < n → wX_trace_29 post (nI s) (nI t) (nI q) n (nI x) (nI y) (nI i)) ∧ (∀ post : Int32 → SY → Prop, (∀ D', post r (nI q, nI p, nI k, D')) → ∀ n, d < n → ∀ D : Nat → Int32, wY_trace_26 post (nI s) n (nI x) (nI y) (nI i) (nI q) (nI p) (nI k) D) := by
  have hB := ft_Q_b hQ
  intro d
  induction d with
  | zero =>
    intro i hi x y hx hy
    refine ⟨nI x, ?_, ?_⟩
    · intro post hp n hn
      obtain ⟨m, rfl⟩ : ∃ m, n = m + 1 := ⟨n - 1, by omega⟩
      exact br_t (nI_le (by omega) (by omega)) hp
    · intro post hp n hn D
      obtain ⟨m, rfl⟩ : ∃ m, n = m + 1 := ⟨n - 1, by omega⟩
      rw [wY_trace_26]
      refine hY _ _ _ _ ?_
      exact br_t (nI_le (by omega) (by omega)) (hp D)
  | succ d ih =>
    intro i hi x y hx hy
    obtain ⟨r, hX, hZ⟩ := ih (i + 1) (by omega) (ft_S p x y k) (ft_pw q y s) (ft_S_q hQ x y) (ft_pw_q hQ hy s)
    refine ⟨r, ?_, ?_⟩
    · intro post hp n hn
      obtain ⟨m, rfl⟩ : ∃ m, n = m + 1 := ⟨n - 1, by omega⟩
      exact br_f (nI_ge (by omega) (by omega)) (fx_sum hQ (by omega) (by omega) (fx_raise hQ hy hs (nm_r (nI_1 i) (hX post hp m (by omega)))))
    · intro post hp n hn D
      obtain ⟨m, rfl⟩ : ∃ m, n = m + 1 := ⟨n - 1, by omega⟩
      rw [wY_trace_26]
      refine hY _ _ _ _ ?_
      exact br_f (nI_ge (by omega) (by omega)) (fy_sum hQ (by omega) (by omega) (fy_raised hQ hy hs (fun D' => nm_r (nI_1 i) (hZ post hp m (by omega) D'))))
/- home -/
theorem fo_home {q p k h : Nat} (hQ : ft_Q q p k h) {a : Nat} (ha : a < q) : ∀ d i, i + d = q → ∃ r : Int32, (∀ post : Int32 → Prop, post r → ∀ n, d < n → wX_home_12 post (nI a) (nI q) n (nI i)) ∧ (∀ post : Int32 → SY → Prop, (∀ D', post r (nI q, nI p, nI k, D')) → ∀ n, d < n → ∀ D : Nat → Int32, wY_home_12 post (nI a) n (nI i) (nI q) (nI p) (nI k) D) := by
  have hB := ft_Q_b hQ
  intro d
  induction d with
  | zero =>
    intro i hi
    refine ⟨nI q, ?_, ?_⟩
    · intro post hp n hn
      obtain ⟨m, rfl⟩ : ∃ m, n = m + 1 := ⟨n - 1, by omega⟩
      exact br_t (nI_le (by omega) (by omega)) hp
    · intro post hp n hn D
      obtain ⟨m, rfl⟩ : ∃ m, n = m + 1 := ⟨n - 1, by omega⟩
      exact br_t (nI_le (by omega) (by omega)) (hp D)
  | succ d ih =>
    intro i hi
    have hiq : i < q := by omega
    have hM := ft_pw_q hQ ha i
    obtain ⟨t, ht, sX, sY, _⟩ := fo_steps hQ (nI i)
    obtain ⟨r, hX, hY⟩ := ih (i + 1) (by omega)
    by_cases z : t = 0
    · have z0 : nI t ≤ 0 := by rw [z]; exact ft_z0
      refine ⟨r, ?_, ?_⟩
      · intro post hp n hn
        obtain ⟨m, rfl⟩ : ∃ m, n = m + 1 := ⟨n - 1, by omega⟩
        exact br_f (nI_ge hiq (by omega)) (sX _ (br_t z0 (nm_r (nI_1 i) (hX post hp m (by omega)))))
      · intro post hp n hn D
        obtain ⟨m, rfl⟩ : ∃ m, n = m + 1 := ⟨n - 1, by omega⟩
        exact br_f (nI_ge hiq (by omega)) (sY _ _ _ _ (br_t z0 (nm_r (nI_1 i) (hY post hp m (by omega) D))))
    · have z0 : ¬ nI t ≤ 0 := nI_nle (by omega) (by omega)
      by_cases w : ft_pw q a i = a
      · refine ⟨nI i, ?_, ?_⟩
        · intro post hp n hn
          obtain ⟨m, rfl⟩ : ∃ m, n = m + 1 := ⟨n - 1, by omega⟩
          exact br_f (nI_ge hiq (by omega)) (sX _ (br_f z0 (fx_raise hQ ha (by omega) (br_t (congrArg nI w) hp))))
        · intro post hp n hn D
          obtain ⟨m, rfl⟩ : ∃ m, n = m + 1 := ⟨n - 1, by omega⟩
          exact br_f (nI_ge hiq (by omega)) (sY _ _ _ _ (br_f z0 (fy_raised hQ ha (by omega) (fun D' => br_t (congrArg nI w) (hp D')))))
      · have ne : ¬ nI (ft_pw q a i) = nI a := fun e => w ((nI_eq (by omega) (by omega)).mp e)
        refine ⟨r, ?_, ?_⟩
        · intro post hp n hn
          obtain ⟨m, rfl⟩ : ∃ m, n = m + 1 := ⟨n - 1, by omega⟩
          exact br_f (nI_ge hiq (by omega)) (sX _ (br_f z0 (fx_raise hQ ha (by omega) (br_f ne (nm_r (nI_1 i) (hX post hp m (by omega)))))))
        · intro post hp n hn D
          obtain ⟨m, rfl⟩ : ∃ m, n = m + 1 := ⟨n - 1, by omega⟩
          exact br_f (nI_ge hiq (by omega)) (sY _ _ _ _ (br_f z0 (fy_raised hQ ha (by omega) (fun D' => br_f ne (nm_r (nI_1 i) (hY post hp m (by omega) D'))))))
/- logarithm: the reference goes one step further, where the powers of g are back at 1 -/
theorem fo_log {q p k h : Nat} (hQ : ft_Q q p k h) {g a : Nat} (hg : g < q) (g0 : 0 < g) (ha : a < q) : ∀ d i, i + d = q - 1 → (i = 0 ∨ a ≠ 1) → ∃ r : Int32, (∀ post : Int32 → Prop, post r → ∀ n, d < n → wX_logarithm_23 post (nI g) (nI a) (nI q) n (nI (ft_it q g i)) (nI i)) ∧ (∀ post : Int32 → SY → Prop, (∀ D', post r (nI q, nI p, nI k, D')) → ∀ n, d + 1 < n → ∀ D : Nat → Int32, wY_logarithm_31 post (nI g) (nI a) n (nI (ft_it q g i)) (nI i) (nI q) (nI p) (nI k) D) := by
  have hB := ft_Q_b hQ
  have hq1 : nI q - 1 = nI (q - 1) := pk_sub (b := 1) (by omega)
  intro d
  induction d with
  | zero =>
    intro i hi h1
    have hI := ft_it_q hQ hg i
    have e : ft_it q g i = 1 := by
      rw [show i = q - 1 by omega]
      exact ft_ord hQ hg g0
    have ne : ¬ nI (ft_it q g i) = nI a := by
      rw [e]
      intro z
      have := (nI_eq (by omega) (by omega)).mp z
      omega
    refine ⟨-1, ?_, ?_⟩
    · intro post hp n hn
      obtain ⟨m, rfl⟩ : ∃ m, n = m + 1 := ⟨n - 1, by omega⟩
      refine br_t ?_ hp
      rw [hq1]
      exact nI_le (by omega) (by omega)
    · intro post hp n hn D
      obtain ⟨m, rfl⟩ : ∃ m, n = m + 2 := ⟨n - 2, by omega⟩
      exact br_f (nI_ge (by omega) (by omega)) (br_f ne (fy_product hQ hI hg (fun D' => nm_r (nI_1 i) (br_t (nI_le (by omega) (by omega)) (hp D')))))
  | succ d ih =>
    intro i hi h1
    have hI := ft_it_q hQ hg i
    have nX : ¬ nI q - 1 ≤ nI i := by
      rw [hq1]
      exact nI_ge (by omega) (by omega)
    by_cases c : ft_it q g i = a
    · refine ⟨nI i, ?_, ?_⟩
      · intro post hp n hn
        obtain ⟨m, rfl⟩ : ∃ m, n = m + 1 := ⟨n - 1, by omega⟩
        exact br_f nX (br_t (congrArg nI c) hp)
      · intro post hp n hn D
        obtain ⟨m, rfl⟩ : ∃ m, n = m + 1 := ⟨n - 1, by omega⟩
        exact br_f (nI_ge (by omega) (by omega)) (br_t (congrArg nI c) (hp D))
    · have ne : ¬ nI (ft_it q g i) = nI a := fun e => c ((nI_eq (by omega) (by omega)).mp e)
      have a1 : a ≠ 1 := by
        rcases h1 with h1 | h1
        · intro z
          apply c
          rw [h1, z]
          rfl
        · exact h1
      obtain ⟨r, hX, hY⟩ := ih (i + 1) (by omega) (Or.inr a1)
      refine ⟨r, ?_, ?_⟩
      · intro post hp n hn
        obtain ⟨m, rfl⟩ : ∃ m, n = m + 1 := ⟨n - 1, by omega⟩
        exact br_f nX (br_f ne (fx_product hQ hI hg (nm_r (nI_1 i) (hX post hp m (by omega)))))
      · intro post hp n hn D
        obtain ⟨m, rfl⟩ : ∃ m, n = m + 1 := ⟨n - 1, by omega⟩
        exact br_f (nI_ge (by omega) (by omega)) (br_f ne (fy_product hQ hI hg (fun D' => nm_r (nI_1 i) (hY post hp m (by omega) D'))))
