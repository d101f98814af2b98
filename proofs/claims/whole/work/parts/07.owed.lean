/- what is owed -/
/-- both hold the same field: its size, and on the reference's side its base and degree; the digits are free -/
def i_Rel (_ : Nat) (u : SX) (v : SY) : Prop := ∃ (q p k h : Nat) (D : Nat → Int32), ft_Q q p k h ∧ u = nI q ∧ v = (nI q, nI p, nI k, D)
theorem i_up {k : Nat} {u : SX} {v : SY} (h : i_Rel k u v) : i_Rel (k + 3) u v := h
theorem i_vc0 : wpX_init (fun u => wpY_init (fun v => i_Rel 0 u v)) :=
  ⟨64, 2, 6, 32, fun _ => 0, Or.inl ⟨rfl, rfl, rfl, rfl⟩, rfl, rfl⟩
theorem i_vc_use {k : Nat} {u : SX} {v : SY} (I : i_Rel k u v) (hk : k + 3 ≤ 1536) (v1 : Int32) : wpX_use (fun r u' => wpY_use (fun r' v' => r' = r ∧ i_Rel (k + 3) u' v') v v1) u v1 := by
  obtain ⟨q, p, d, h, D, hQ, rfl, rfl⟩ := I
  by_cases c : v1 = 64
  · exact br_t c (br_t c (br_t c (br_t c ⟨rfl, 64, 2, 6, 32, D, Or.inl ⟨rfl, rfl, rfl, rfl⟩, c, by rw [c]; rfl⟩)))
  · by_cases c2 : v1 = 81
    · exact br_f c (br_t c2 (br_f c (br_t c2 (br_f c (br_f c ⟨rfl, 81, 3, 4, 27, D, Or.inr ⟨rfl, rfl, rfl, rfl⟩, c2, by rw [c2]; rfl⟩)))))
    · exact br_f c (br_f c2 (br_f c (br_f c2 ⟨rfl, q, p, d, h, D, hQ, rfl, rfl⟩)))
theorem i_vc_add {k : Nat} {u : SX} {v : SY} (I : i_Rel k u v) (hk : k + 3 ≤ 1536) (v1 : Int32) (v2 : Int32) : wpX_add (fun r => wpY_add (fun r' => r' = r ∧ i_Rel (k + 3) u v) v v1 v2) u v1 v2 := by
  obtain ⟨q, p, d, h, D, hQ, rfl, rfl⟩ := I
  have R : i_Rel (k + 3) (nI q) (nI q, nI p, nI d, D) := ⟨q, p, d, h, D, hQ, rfl, rfl⟩
  have hB := ft_Q_b hQ
  have q31 : q < 2 ^ 31 := by omega
  unfold wpX_add wpY_add
  dsimp only
  rcases ft_ix v1 q31 with h1 | ⟨a, ha, rfl⟩
  · exact fx_el_no h1 (br_t rfl (fy_bad_no h1 (br_f ft_10 ⟨rfl, R⟩)))
  · refine fx_el_ok q31 ha (br_f ft_10 ?_)
    rcases ft_ix v2 q31 with h2 | ⟨b, hb, rfl⟩
    · exact fx_el_no h2 (br_t rfl (fy_bad_ok q31 ha (br_t rfl (fy_bad_no h2 (br_f ft_10 ⟨rfl, R⟩)))))
    · exact fx_el_ok q31 hb (br_f ft_10 (fx_sum hQ (by omega) (by omega) (fy_bad_ok q31 ha (br_t rfl (fy_bad_ok q31 hb (br_t rfl (fy_sum hQ (by omega) (by omega) ⟨rfl, R⟩)))))))
theorem i_vc_multiply {k : Nat} {u : SX} {v : SY} (I : i_Rel k u v) (hk : k + 3 ≤ 1536) (v1 : Int32) (v2 : Int32) : wpX_multiply (fun r => wpY_multiply (fun r' v' => r' = r ∧ i_Rel (k + 3) u v') v v1 v2) u v1 v2 := by
  obtain ⟨q, p, d, h, D, hQ, rfl, rfl⟩ := I
  have R : ∀ D', i_Rel (k + 3) (nI q) (nI q, nI p, nI d, D') := fun D' => ⟨q, p, d, h, D', hQ, rfl, rfl⟩
  have hB := ft_Q_b hQ
  have q31 : q < 2 ^ 31 := by omega
  unfold wpX_multiply wpY_multiply
  dsimp only
  rcases ft_ix v1 q31 with h1 | ⟨a, ha, rfl⟩
  · exact fx_el_no h1 (br_t rfl (fy_bad_no h1 (br_f ft_10 ⟨rfl, R D⟩)))
  · refine fx_el_ok q31 ha (br_f ft_10 ?_)
    rcases ft_ix v2 q31 with h2 | ⟨b, hb, rfl⟩
    · exact fx_el_no h2 (br_t rfl (fy_bad_ok q31 ha (br_t rfl (fy_bad_no h2 (br_f ft_10 ⟨rfl, R D⟩)))))
    · exact fx_el_ok q31 hb (br_f ft_10 (fx_product hQ ha hb (fy_bad_ok q31 ha (br_t rfl (fy_bad_ok q31 hb (br_t rfl (fy_product hQ ha hb (fun D' => ⟨rfl, R D'⟩))))))))
theorem i_vc_invert {k : Nat} {u : SX} {v : SY} (I : i_Rel k u v) (hk : k + 3 ≤ 1536) (v1 : Int32) : wpX_invert (fun r => wpY_invert (fun r' v' => r' = r ∧ i_Rel (k + 3) u v') v v1) u v1 := by
  obtain ⟨q, p, d, h, D, hQ, rfl, rfl⟩ := I
  have R : ∀ D', i_Rel (k + 3) (nI q) (nI q, nI p, nI d, D') := fun D' => ⟨q, p, d, h, D', hQ, rfl, rfl⟩
  have hB := ft_Q_b hQ
  have q31 : q < 2 ^ 31 := by omega
  have e2 : nI q - 2 = nI (q - 2) := pk_sub (b := 2) (by omega)
  unfold wpX_invert wpY_invert
  dsimp only
  rcases ft_ix v1 q31 with h1 | ⟨a, ha, rfl⟩
  · exact fx_un_no h1 (br_t rfl (fy_bad_no h1 (br_f ft_10 ⟨rfl, R D⟩)))
  · by_cases a0 : a = 0
    · subst a0
      exact fx_un_0 (br_t rfl (fy_bad_ok q31 ha (br_t rfl ⟨q + 1, fy_inv_0 hQ (fun D' => ⟨rfl, R D'⟩) q 0 (by omega) (q + 1) (by omega) D⟩)))
    · refine fx_un_ok q31 ha (by omega) (br_f ft_10 ?_)
      rw [e2]
      exact fx_raise hQ ha (by omega) (fy_bad_ok q31 ha (br_t rfl ⟨_, fy_inv_l hQ ha (by omega) (fun D' => ⟨rfl, R D'⟩) (ft_pw q a (q - 2)) 0 (by omega) (ft_pw q a (q - 2) + 1) (by omega) D⟩))
theorem i_vc_power {k : Nat} {u : SX} {v : SY} (I : i_Rel k u v) (hk : k + 3 ≤ 1536) (v1 : Int32) (v2 : Int32) : wpX_power (fun r => wpY_power (fun r' v' => r' = r ∧ i_Rel (k + 3) u v') v v1 v2) u v1 v2 := by
  obtain ⟨q, p, d, h, D, hQ, rfl, rfl⟩ := I
  have R : ∀ D', i_Rel (k + 3) (nI q) (nI q, nI p, nI d, D') := fun D' => ⟨q, p, d, h, D', hQ, rfl, rfl⟩
  have hB := ft_Q_b hQ
  have q31 : q < 2 ^ 31 := by omega
  unfold wpX_power wpY_power
  dsimp only
  rcases ft_ix v1 q31 with h1 | ⟨a, ha, rfl⟩
  · exact fx_el_no h1 (br_t rfl (fy_bad_no h1 (br_f ft_10 ⟨rfl, R D⟩)))
  · refine fx_el_ok q31 ha (br_f ft_10 ?_)
    by_cases c1 : v2 < 0
    · exact br_t c1 (fy_bad_ok q31 ha (br_t rfl (br_t c1 ⟨rfl, R D⟩)))
    · by_cases c2 : v2 ≤ 1000000
      · obtain ⟨n, hn, rfl⟩ := nI_of2 (n := 1000000) (by decide) c1 c2
        exact br_f c1 (br_t c2 (fx_raise hQ ha (by omega) (fy_bad_ok q31 ha (br_t rfl (br_f c1 (br_t c2 (fy_raised hQ ha (by omega) (fun D' => ⟨rfl, R D'⟩))))))))
      · exact br_f c1 (br_f c2 (fy_bad_ok q31 ha (br_t rfl (br_f c1 (br_f c2 ⟨rfl, R D⟩)))))
theorem i_vc_order {k : Nat} {u : SX} {v : SY} (I : i_Rel k u v) (hk : k + 3 ≤ 1536) (v1 : Int32) : wpX_order (fun r => wpY_order (fun r' v' => r' = r ∧ i_Rel (k + 3) u v') v v1) u v1 := by
  obtain ⟨q, p, d, h, D, hQ, rfl, rfl⟩ := I
  have R : ∀ D', i_Rel (k + 3) (nI q) (nI q, nI p, nI d, D') := fun D' => ⟨q, p, d, h, D', hQ, rfl, rfl⟩
  have hB := ft_Q_b hQ
  have q31 : q < 2 ^ 31 := by omega
  unfold wpX_order wpY_order
  dsimp only
  rcases ft_ix v1 q31 with h1 | ⟨a, ha, rfl⟩
  · exact fx_un_no h1 (br_t rfl (fy_bad_no h1 (br_f ft_10 ⟨rfl, R D⟩)))
  · by_cases a0 : a = 0
    · subst a0
      exact fx_un_0 (br_t rfl (fy_bad_ok q31 ha (br_t rfl (br_t rfl ⟨rfl, R D⟩))))
    · obtain ⟨r, hX, hY⟩ := fo_order hQ ha (by omega) (q - 2) 1 (by omega)
      have e1 : ft_it q a 1 = a := ft_one hQ ha
      rw [e1] at hX hY
      exact fx_un_ok q31 ha (by omega) (br_f ft_10 ⟨q, hX _ (fy_bad_ok q31 ha (br_t rfl (br_f (nI_ne0 (by omega) (by omega)) ⟨q, hY _ (fun D' => ⟨rfl, R D'⟩) q (by omega) D⟩))) q (by omega)⟩)
theorem i_vc_root {k : Nat} {u : SX} {v : SY} (I : i_Rel k u v) (hk : k + 3 ≤ 1536) (v1 : Int32) : wpX_root (fun r => wpY_root (fun r' v' => r' = r ∧ i_Rel (k + 3) u v') v v1) u v1 := by
  obtain ⟨q, p, d, h, D, hQ, rfl, rfl⟩ := I
  have R : ∀ D', i_Rel (k + 3) (nI q) (nI q, nI p, nI d, D') := fun D' => ⟨q, p, d, h, D', hQ, rfl, rfl⟩
  have hB := ft_Q_b hQ
  have q31 : q < 2 ^ 31 := by omega
  unfold wpX_root wpY_root
  dsimp only
  rcases ft_ix v1 q31 with h1 | ⟨a, ha, rfl⟩
  · exact fx_el_no h1 (br_t rfl (fy_bad_no h1 (br_f ft_10 ⟨rfl, R D⟩)))
  · obtain ⟨r, hX, hY⟩ := fo_root hQ ha q 0 (by omega)
    exact fx_el_ok q31 ha (br_f ft_10 ⟨q + 1, hX _ (fy_bad_ok q31 ha (br_t rfl ⟨q + 1, hY _ (fun D' => ⟨rfl, R D'⟩) (q + 1) (by omega) D⟩)) (q + 1) (by omega)⟩)
theorem i_vc_roots {k : Nat} {u : SX} {v : SY} (I : i_Rel k u v) (hk : k + 3 ≤ 1536) (v1 : Int32) (v2 : Int32) : wpX_roots (fun r => wpY_roots (fun r' v' => r' = r ∧ i_Rel (k + 3) u v') v v1 v2) u v1 v2 := by
  obtain ⟨q, p, d, h, D, hQ, rfl, rfl⟩ := I
  have R : ∀ D', i_Rel (k + 3) (nI q) (nI q, nI p, nI d, D') := fun D' => ⟨q, p, d, h, D', hQ, rfl, rfl⟩
  have hB := ft_Q_b hQ
  have q31 : q < 2 ^ 31 := by omega
  unfold wpX_roots wpY_roots
  dsimp only
  rcases ft_ix v1 q31 with h1 | ⟨a, ha, rfl⟩
  · exact fx_el_no h1 (br_t rfl (fy_bad_no h1 (br_f ft_10 ⟨rfl, R D⟩)))
  · refine fx_el_ok q31 ha (br_f ft_10 ?_)
    by_cases c1 : v2 < 1
    · exact br_t c1 (fy_bad_ok q31 ha (br_t rfl (br_t c1 ⟨rfl, R D⟩)))
    · by_cases c2 : v2 ≤ 1000000
      · have c0 : ¬ v2 < 0 := fun z => c1 (Int32.lt_trans z (by decide))
        obtain ⟨n, hn, rfl⟩ := nI_of2 (n := 1000000) (by decide) c0 c2
        obtain ⟨r, hX, hY⟩ := fo_roots hQ (e := n) ha (by omega) q 0 (by omega) 0
        exact br_f c1 (br_t c2 ⟨q + 1, hX _ (fy_bad_ok q31 ha (br_t rfl (br_f c1 (br_t c2 ⟨q + 1, hY _ (fun D' => ⟨rfl, R D'⟩) (q + 1) (by omega) D⟩)))) (q + 1) (by omega)⟩)
      · exact br_f c1 (br_f c2 (fy_bad_ok q31 ha (br_t rfl (br_f c1 (br_f c2 ⟨rfl, R D⟩)))))
theorem i_vc_trace {k : Nat} {u : SX} {v : SY} (I : i_Rel k u v) (hk : k + 3 ≤ 1536) (v1 : Int32) (v2 : Int32) : wpX_trace (fun r => wpY_trace (fun r' v' => r' = r ∧ i_Rel (k + 3) u v') v v1 v2) u v1 v2 := by
  obtain ⟨q, p, d, h, D, hQ, rfl, rfl⟩ := I
  have R : ∀ D', i_Rel (k + 3) (nI q) (nI q, nI p, nI d, D') := fun D' => ⟨q, p, d, h, D', hQ, rfl, rfl⟩
  have hB := ft_Q_b hQ
  have q31 : q < 2 ^ 31 := by omega
  unfold wpX_trace wpY_trace
  dsimp only
  obtain ⟨t, ht, sX, sY, sn⟩ := fo_steps hQ v2
  refine sX _ ?_
  rcases ft_ix v1 q31 with h1 | ⟨a, ha, rfl⟩
  · exact fx_el_no h1 (br_t rfl (fy_bad_no h1 (br_f ft_10 ⟨rfl, R D⟩)))
  · refine fx_el_ok q31 ha (br_f ft_10 ?_)
    by_cases z : t = 0
    · subst z
      exact br_t rfl (fy_bad_ok q31 ha (br_t rfl (sY _ _ _ _ (br_t rfl ⟨rfl, R D⟩))))
    · have z0 : ¬ nI t = 0 := nI_ne0 (by omega) (by omega)
      obtain ⟨s, hs, rfl⟩ := sn z
      obtain ⟨r, hX, hY⟩ := fo_trace hQ (by omega) ht sY t 0 (by omega) 0 a (by omega) ha
      exact br_f z0 ⟨t + 1, hX _ (fy_bad_ok q31 ha (br_t rfl (sY _ _ _ _ (br_f z0 ⟨t + 1, hY _ (fun D' => ⟨rfl, R D'⟩) (t + 1) (by omega) D⟩)))) (t + 1) (by omega)⟩
theorem i_vc_home {k : Nat} {u : SX} {v : SY} (I : i_Rel k u v) (hk : k + 3 ≤ 1536) (v1 : Int32) : wpX_home (fun r => wpY_home (fun r' v' => r' = r ∧ i_Rel (k + 3) u v') v v1) u v1 := by
  obtain ⟨q, p, d, h, D, hQ, rfl, rfl⟩ := I
  have R : ∀ D', i_Rel (k + 3) (nI q) (nI q, nI p, nI d, D') := fun D' => ⟨q, p, d, h, D', hQ, rfl, rfl⟩
  have hB := ft_Q_b hQ
  have q31 : q < 2 ^ 31 := by omega
  unfold wpX_home wpY_home
  dsimp only
  rcases ft_ix v1 q31 with h1 | ⟨a, ha, rfl⟩
  · exact fx_el_no h1 (br_t rfl (fy_bad_no h1 (br_f ft_10 ⟨rfl, R D⟩)))
  · obtain ⟨r, hX, hY⟩ := fo_home hQ ha (q - 2) 2 (by omega)
    exact fx_el_ok q31 ha (br_f ft_10 ⟨q, hX _ (fy_bad_ok q31 ha (br_t rfl ⟨q, hY _ (fun D' => ⟨rfl, R D'⟩) q (by omega) D⟩)) q (by omega)⟩)
theorem i_vc_logarithm {k : Nat} {u : SX} {v : SY} (I : i_Rel k u v) (hk : k + 3 ≤ 1536) (v1 : Int32) (v2 : Int32) : wpX_logarithm (fun r => wpY_logarithm (fun r' v' => r' = r ∧ i_Rel (k + 3) u v') v v1 v2) u v1 v2 := by
  obtain ⟨q, p, d, h, D, hQ, rfl, rfl⟩ := I
  have R : ∀ D', i_Rel (k + 3) (nI q) (nI q, nI p, nI d, D') := fun D' => ⟨q, p, d, h, D', hQ, rfl, rfl⟩
  have hB := ft_Q_b hQ
  have q31 : q < 2 ^ 31 := by omega
  unfold wpX_logarithm wpY_logarithm
  dsimp only
  rcases ft_ix v1 q31 with h1 | ⟨g, hg, rfl⟩
  · exact fx_un_no h1 (br_t rfl (fy_bad_no h1 (br_f ft_10 ⟨rfl, R D⟩)))
  · by_cases g0 : g = 0
    · subst g0
      refine fx_un_0 (br_t rfl (fy_bad_ok q31 hg (br_t rfl ?_)))
      rcases ft_ix v2 q31 with h2 | ⟨a, ha, rfl⟩
      · exact fy_bad_no h2 (br_f ft_10 ⟨rfl, R D⟩)
      · exact fy_bad_ok q31 ha (br_t rfl (br_t rfl ⟨rfl, R D⟩))
    · have gn : ¬ nI g = 0 := nI_ne0 (by omega) (by omega)
      refine fx_un_ok q31 hg (by omega) (br_f ft_10 ?_)
      rcases ft_ix v2 q31 with h2 | ⟨a, ha, rfl⟩
      · exact fx_un_no h2 (br_t rfl (fy_bad_ok q31 hg (br_t rfl (fy_bad_no h2 (br_f ft_10 ⟨rfl, R D⟩)))))
      · by_cases a0 : a = 0
        · subst a0
          exact fx_un_0 (br_t rfl (fy_bad_ok q31 hg (br_t rfl (fy_bad_ok q31 ha (br_t rfl (br_f gn (br_t rfl ⟨rfl, R D⟩)))))))
        · have an : ¬ nI a = 0 := nI_ne0 (by omega) (by omega)
          obtain ⟨r, hX, hY⟩ := fo_log hQ hg (by omega) ha (q - 1) 0 (by omega) (Or.inl rfl)
          exact fx_un_ok q31 ha (by omega) (br_f ft_10 ⟨q, hX _ (fy_bad_ok q31 hg (br_t rfl (fy_bad_ok q31 ha (br_t rfl (br_f gn (br_f an ⟨q + 1, hY _ (fun D' => ⟨rfl, R D'⟩) (q + 1) (by omega) D⟩)))))) q (by omega)⟩)
