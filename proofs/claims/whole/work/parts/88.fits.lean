theorem r53 {r : Int32} (h : r = (-5) ∨ r = (-3)) : ¬ r = 0 ∧ ¬ r = (-6) := by
  rcases h with rfl | rfl
  · exact ⟨m5_0, m5_6⟩
  · exact ⟨m3_0, m3_6⟩
theorem k_fits {N : Nat} (hN : 5900 < N) {σ τ : Hp} (hR : Rl σ τ) (p0 : Int32) : ∃ r : Int32, ∃ σ1 : Hp, ∃ τ1 : Hp, t_X6_fits N p0 σ = some (r, σ1) ∧ t_X7_fits N p0 τ = some (r, τ1) ∧ Rl σ1 τ1 := by
  obtain ⟨C, H, pn, P, h1, h2, h3, h4, h5, h6, h7, h8, h9⟩ := id hR
  have hb := h3.1
  unfold t_X6_fits t_X7_fits
  rcases fit_pair hN hR h1 h2 h3 h4 h5 h6 h7 with ⟨r, τ', q1, q2, q3, q4⟩ | ⟨A, σ', τ', a1, a2, a3, a4, a5, a6, a7, a8, a9⟩
  · rw [q2, q3, b2_s, b2_s, if_neg (r53 q1).1, if_neg (r53 q1).2]; exact ⟨_, _, _, rfl, rfl, q4⟩
  rw [a3, a4, b2_s, b2_s, if_pos rfl, if_pos rfl, a8.2.1, a9.1]
  by_cases c : p0 = (-1)
  · rw [if_pos c, if_pos c]; exact ⟨_, _, _, rfl, rfl, a5⟩
  rw [if_neg c, if_neg c, isEgg_e a7 h3, bind_s, a6.1, isWithin_e, bind_s, show nI (C 0 0) - 1 = nI (C 0 0 - 1) from pk_sub (b := 1) hb.1]
  unfold t_X7_fits_49
  by_cases c2 : A.length = 0
  · rw [if_pos (show nI A.length = 0 by rw [c2]; rfl), if_pos (show nI A.length ≤ 0 by rw [c2]; decide)]; exact ⟨_, _, _, rfl, rfl, a5⟩
  rw [if_neg (nI_ne0 (by omega) (by omega)), if_neg (nI_nle (by omega) (by omega))]
  by_cases hq : p0 < 0 ∨ nI (C 0 0) ≤ p0
  · have hq2 : p0 < 0 ∨ nI (C 0 0 - 1) < p0 := hq.elim Or.inl (fun z => Or.inr (Int32.lt_of_lt_of_le (nI_lt (by omega) (by omega)) z))
    rw [if_pos hq, if_pos hq2, if_pos rfl, if_pos rfl]; exact ⟨_, _, _, rfl, rfl, a5⟩
  obtain ⟨e, he, rfl⟩ := egg_c (n := C 0 0) hb.2 hq
  have hq2 : ¬ (nI e < 0 ∨ nI (C 0 0 - 1) < nI e) := fun z => z.elim (nI_pos (by omega)) (nI_nlt (by omega) (by omega))
  rw [ite_1 hq, ite_1 hq2, at_in (by omega) (by omega), bind_s, gi_in (by omega) (by omega), nI_clamp (by omega)]
  obtain ⟨l, Q, hA⟩ : ∃ l Q, A = l :: Q := by
    cases A with
    | nil => exact absurd rfl c2
    | cons l Q => exact ⟨l, Q, rfl⟩
  rw [a8.2.2.2.2 l Q hA e he, a9.2.2.2 l Q hA e he]; exact ⟨_, _, _, rfl, rfl, a5⟩
theorem k_places {N : Nat} (hN : 5900 < N) {σ τ : Hp} (hR : Rl σ τ) (p0 : Int32) : ∃ r : Int32, ∃ σ1 : Hp, ∃ τ1 : Hp, t_X6_places N p0 σ = some (r, σ1) ∧ t_X7_places N p0 τ = some (r, τ1) ∧ Rl σ1 τ1 := by
  obtain ⟨C, H, pn, P, h1, h2, h3, h4, h5, h6, h7, h8, h9⟩ := id hR
  have hb := h3.1
  unfold t_X6_places t_X7_places
  rw [has_e h1, isEgg_e h2 h3, bind_s, bind_s]
  by_cases hq : p0 < 0 ∨ nI (C 0 0) ≤ p0
  · rw [ite_0 hq, ite_0 hq]; exact ⟨_, _, _, rfl, rfl, hR⟩
  obtain ⟨e, he, rfl⟩ := egg_c (n := C 0 0) hb.2 hq
  rw [ite_1 hq, ite_1 hq]
  rcases fit_pair hN hR h1 h2 h3 h4 h5 h6 h7 with ⟨r, τ', q1, q2, q3, q4⟩ | ⟨A, σ', τ', a1, a2, a3, a4, a5, a6, a7, a8, a9⟩
  · rw [q2, q3, b2_s, b2_s, if_neg (r53 q1).1, if_neg (r53 q1).2]; exact ⟨_, _, _, rfl, rfl, q4⟩
  rw [a3, a4, b2_s, b2_s, if_pos rfl, if_pos rfl, placesX_e (by omega) hb.2 a2 a8 he, bind_s, placesM_e (by omega) hb.2 a2 a7.1 a9 he]
  exact ⟨_, _, _, rfl, rfl, a5⟩
theorem k_firsts {N : Nat} (hN : 5900 < N) {σ τ : Hp} (hR : Rl σ τ) : ∃ r : Int32, ∃ σ1 : Hp, ∃ τ1 : Hp, t_X6_firsts N σ = some (r, σ1) ∧ t_X7_firsts N τ = some (r, τ1) ∧ Rl σ1 τ1 := by
  obtain ⟨C, H, pn, P, h1, h2, h3, h4, h5, h6, h7, h8, h9⟩ := id hR
  have hb := h3.1
  unfold t_X6_firsts t_X7_firsts
  rcases fit_pair hN hR h1 h2 h3 h4 h5 h6 h7 with ⟨r, τ', q1, q2, q3, q4⟩ | ⟨A, σ', τ', a1, a2, a3, a4, a5, a6, a7, a8, a9⟩
  · rw [q2, q3, b2_s, b2_s, if_neg (r53 q1).1, if_neg (r53 q1).2]; exact ⟨_, _, _, rfl, rfl, q4⟩
  rw [a3, a4, b2_s, b2_s, if_pos rfl, if_pos rfl, firstsX_e (by omega) hb.1 hb.2 a2 a8, bind_s, firstsM_e (by omega) hb.1 hb.2 a2 a7.1 a9]
  exact ⟨_, _, _, rfl, rfl, a5⟩
theorem k_certain {N : Nat} (hN : 5900 < N) {σ τ : Hp} (hR : Rl σ τ) (p0 p1 : Int32) : ∃ r : Int32, ∃ σ1 : Hp, ∃ τ1 : Hp, t_X6_certain N p0 p1 σ = some (r, σ1) ∧ t_X7_certain N p0 p1 τ = some (r, τ1) ∧ Rl σ1 τ1 := by
  obtain ⟨C, H, pn, P, h1, h2, h3, h4, h5, h6, h7, h8, h9⟩ := id hR
  have hb := h3.1
  unfold t_X6_certain t_X7_certain
  rw [has_e h1, isEgg_e h2 h3, bind_s, bind_s]
  by_cases hq : p0 < 0 ∨ nI (C 0 0) ≤ p0
  · rw [ite_0 hq, ite_0 hq]; exact ⟨_, _, _, rfl, rfl, hR⟩
  obtain ⟨e, he, rfl⟩ := egg_c (n := C 0 0) hb.2 hq
  rw [ite_1 hq, ite_1 hq, has_e h1, isEgg_e h2 h3, bind_s, bind_s]
  by_cases hq2 : p1 < 0 ∨ nI (C 0 0) ≤ p1
  · rw [ite_0 hq2, ite_0 hq2]; exact ⟨_, _, _, rfl, rfl, hR⟩
  obtain ⟨o, ho, rfl⟩ := egg_c (n := C 0 0) hb.2 hq2
  rw [ite_1 hq2, ite_1 hq2, eq_nI (by omega) (by omega), eq_nI (by omega) (by omega)]
  by_cases ceo : e = o
  · rw [if_pos ceo, if_pos ceo]; exact ⟨_, _, _, rfl, rfl, hR⟩
  rw [if_neg ceo, if_neg ceo]
  rcases fit_pair hN hR h1 h2 h3 h4 h5 h6 h7 with ⟨r, τ', q1, q2, q3, q4⟩ | ⟨A, σ', τ', a1, a2, a3, a4, a5, a6, a7, a8, a9⟩
  · rw [q2, q3, b2_s, b2_s, if_neg (r53 q1).1, if_neg (r53 q1).2]; exact ⟨_, _, _, rfl, rfl, q4⟩
  have t1 := oQ_tb (o := o) hb.2 he A a1
  have t2 := oQ_tb (o := e) hb.2 ho A a1
  have l1 := oQ_lt (e := e) hb.2 A a1
  have l2 := oQ_lt (e := o) hb.2 A a1
  have hle := hQ_le e o A
  have dj : ∀ l, l ∈ A → (¬ ix l e < ix l o ↔ ix l o < ix l e) := fun l hl => by
    have pr := row_PR hb.2 (a1 l hl)
    have : ix l e ≠ ix l o := fun z => ceo (by rw [← (pr.2 e he).2, ← (pr.2 o ho).2, z])
    omega
  have u1 : (oQ A 0 e).testBit o = true ↔ ¬ hQ A e o = A.length := by
    rw [t1, hQ_all]
    constructor
    · rintro ⟨l, y1, y2⟩ y3
      have := y3 l y1; omega
    · intro y
      refine Classical.byContradiction (fun z => y (fun l hl => Classical.byContradiction (fun w => z ⟨l, hl, (dj l hl).mp w⟩)))
  have u2 : (oQ A 0 o).testBit e = true ↔ ¬ hQ A e o = 0 := by
    rw [t2, hQ_no]
    constructor
    · rintro ⟨l, y1, y2⟩ y3
      exact y3 l y1 y2
    · intro y
      exact Classical.byContradiction (fun z => y (fun l hl w => z ⟨l, hl, w⟩))
  rw [a3, a4, b2_s, b2_s, if_pos rfl, if_pos rfl, a8.2.1, a9.1, show (7 : Int32) = nI 7 from rfl, pk_mul, nI_add, gi_in (by omega) (by omega), nI_clamp (by omega), bnd_e, a9.2.2.1 e o he ho]
  by_cases c2 : A.length = 0
  · rw [if_pos (show nI A.length = 0 by rw [c2]; rfl), if_pos (show nI A.length = 0 by rw [c2]; rfl)]; exact ⟨_, _, _, rfl, rfl, a5⟩
  rw [if_neg (nI_ne0 (by omega) (by omega)), if_neg (nI_ne0 (by omega) (by omega)), at_in (by omega) (by omega), bind_s, a8.2.2.2.1 e (by omega), hasBit_7 l1 (by omega), bind_s, if_ne, at_in (by omega) (by omega), bind_s, a8.2.2.2.1 o (by omega), hasBit_7 l2 (by omega), bind_s, if_ne, eq_nI (by omega) (by omega), show (0 : Int32) = nI 0 from rfl, eq_nI (by omega) (by omega)]
  by_cases z1 : hQ A e o = A.length
  · rw [if_neg (fun w => u1.mp w z1), if_pos z1]; exact ⟨_, _, _, rfl, rfl, a5⟩
  · rw [if_pos (u1.mpr z1), if_neg z1]
    by_cases z2 : hQ A e o = 0
    · rw [if_neg (fun w => u2.mp w z2), if_pos z2]; exact ⟨_, _, _, rfl, rfl, a5⟩
    · rw [if_pos (u2.mpr z2), if_neg z2]; exact ⟨_, _, _, rfl, rfl, a5⟩
theorem k_ask {N : Nat} (hN : 5900 < N) {σ τ : Hp} (hR : Rl σ τ) (p0 : Int32) : ∃ r : Int32, ∃ σ1 : Hp, ∃ τ1 : Hp, t_X6_ask N p0 σ = some (r, σ1) ∧ t_X7_ask N p0 τ = some (r, τ1) ∧ Rl σ1 τ1 := by
  obtain ⟨C, H, pn, P, h1, h2, h3, h4, h5, h6, h7, h8, h9⟩ := id hR
  have hb := h3.1
  unfold t_X6_ask t_X7_ask
  rw [isWithin_e, in_l (a := 0) (b := 1) 0 1 rfl rfl, bind_s, bind_s]
  by_cases hq : p0 < 0 ∨ 1 < p0
  · rw [ite_0 hq, ite_0 hq]; exact ⟨_, _, _, rfl, rfl, hR⟩
  obtain ⟨w, hw, rfl⟩ := rng_c (p := p0) (m := 1) (by decide) hq
  rw [ite_1 hq, ite_1 hq]
  rcases fit_pair hN hR h1 h2 h3 h4 h5 h6 h7 with ⟨r, τ', q1, q2, q3, q4⟩ | ⟨A, σ', τ', a1, a2, a3, a4, a5, a6, a7, a8, a9⟩
  · rw [q2, q3, b2_s, b2_s, if_neg (r53 q1).1, if_neg (r53 q1).2]; exact ⟨_, _, _, rfl, rfl, q4⟩
  rw [a3, a4, b2_s, b2_s, if_pos rfl, if_pos rfl, a8.2.1, a9.1]
  by_cases c2 : A.length = 0
  · rw [if_pos (show nI A.length = 0 by rw [c2]; rfl), if_pos (show nI A.length = 0 by rw [c2]; rfl)]; exact ⟨_, _, _, rfl, rfl, a5⟩
  rw [if_neg (nI_ne0 (by omega) (by omega)), if_neg (nI_ne0 (by omega) (by omega)), askX_e (by omega) hb.1 hb.2 a2 a6.1 a8 hw, askM_e (by omega) hb.1 hb.2 a2 a7.1 a9 hw]
  exact ⟨_, _, _, rfl, rfl, a5⟩
