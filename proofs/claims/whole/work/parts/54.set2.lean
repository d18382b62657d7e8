theorem nI_lt60 {v : Nat} (h : v < 2 ^ 31) : True := trivial
theorem RH_sight {σ : Hp} {H : Cp} {k e w : Nat} (h : RH σ 5 H) : RH (hset (hset (hset σ 9 k (nI e)) 10 k (nI w)) 5 1 (nI (k + 1))) 5 (cset (cset (cset H 4 k e) 5 k w) 0 1 (k + 1)) := by
  obtain ⟨a, b, c, d⟩ := h
  refine ⟨by simp (disch := omega) only [hs_o, hs_k]; exact a, by rw [hs_eq]; rfl, fun i hi => by simp (disch := omega) only [hs_o, hs_k]; exact c i hi, fun i hi => ?_⟩
  by_cases hk : i = k
  · subst hk; simp (disch := omega) only [hs_o, hs_eq]; simp [cset]
  · simp (disch := omega) only [hs_o, hs_k]; simp only [cset, hk]; exact d i hi
theorem RN_sight {τ : Hp} {H : Cp} {k e w : Nat} (h : RN τ H) : RN (hset (hset (hset τ 10 k (nI e)) 11 k (nI w)) 0 14 (nI (k + 1))) (cset (cset (cset H 4 k e) 5 k w) 0 1 (k + 1)) := by
  obtain ⟨a, b, c, d⟩ := h
  refine ⟨by simp (disch := omega) only [hs_o, hs_k]; exact a, by rw [hs_eq]; rfl, fun i hi => by simp (disch := omega) only [hs_o, hs_k]; exact c i hi, fun i hi => ?_⟩
  by_cases hk : i = k
  · subst hk; simp (disch := omega) only [hs_o, hs_eq]; simp [cset]
  · simp (disch := omega) only [hs_o, hs_k]; simp only [cset, hk]; exact d i hi
theorem k_seen {σ τ : Hp} (hR : Rl σ τ) (p0 p1 : Int32) : ∃ r : Int32, ∃ σ1 : Hp, ∃ τ1 : Hp, t_X6_seen p0 p1 σ = some (r, σ1) ∧ t_X7_seen p0 p1 τ = some (r, τ1) ∧ Rl σ1 τ1 := by
  obtain ⟨C, H, pn, P, h1, h2, h3, h4, h5, h6, h7, h8, h9⟩ := id hR
  unfold t_X6_seen t_X7_seen
  rw [has_e h1, isEgg_e h2 h3, bind_s, bind_s]
  by_cases hq : p0 < 0 ∨ nI (C 0 0) ≤ p0
  · rw [ite_0 hq, ite_0 hq]; exact ⟨_, _, _, rfl, rfl, hR⟩
  rw [ite_1 hq, ite_1 hq, isWithin_e, in_l (a := 0) (b := 60) 0 60 rfl rfl, bind_s, bind_s]
  obtain ⟨e, he, rfl⟩ := egg_c h3.1.2 hq
  by_cases hq2 : p1 < 0 ∨ 60 < p1
  · rw [ite_0 hq2, ite_0 hq2]; exact ⟨_, _, _, rfl, rfl, hR⟩
  rw [ite_1 hq2, ite_1 hq2]
  obtain ⟨w, hw, rfl⟩ := rng_c (p := p1) (m := 60) (by decide) hq2
  have h31 := h3.1
  obtain ⟨k, hk⟩ : ∃ k, k = H 0 1 := ⟨_, rfl⟩
  have q1 : σ 5 1 = nI k := by rw [hk]; exact h4.2.1
  have q2 : τ 0 14 = nI k := by rw [hk]; exact h5.2.1
  have hk7 : k ≤ 7 := by rw [hk]; exact h6.2.1
  rw [q1, q2]
  by_cases hf : k = 7
  · rw [hf, if_neg (by decide), if_pos (by rfl)]; exact ⟨_, _, _, rfl, rfl, hR⟩
  have hlt : k < 7 := by omega
  refine ⟨nI (k + 1), hset (hset (hset σ 9 k (nI e)) 10 k (nI w)) 5 1 (nI (k + 1)), hset (hset (hset τ 10 k (nI e)) 11 k (nI w)) 0 14 (nI (k + 1)), ?_, ?_, C, cset (cset (cset H 4 k e) 5 k w) 0 1 (k + 1), pn, P, RC_f h1 (fun a _ _ => by simp (disch := omega) only [hs_o, hs_k]), RM_f h2 (fun a _ _ => by simp (disch := omega) only [hs_o, hs_k]) (by simp (disch := omega) only [hs_o, hs_k]) (by simp (disch := omega) only [hs_o, hs_k]), h3, RH_sight h4, RN_sight h5, ?_, RP_fr h7 (by simp (disch := omega) only [hs_o, hs_k]) (by simp (disch := omega) only [hs_o, hs_k]) (by simp (disch := omega) only [hs_o, hs_k]) (by simp (disch := omega) only [hs_o, hs_k]), RI_fr h8 (fun a _ _ => by simp (disch := omega) only [hs_o, hs_k]) (by simp (disch := omega) only [hs_o, hs_k]) (by simp (disch := omega) only [hs_o, hs_k]), RI_fr h9 (fun a _ _ => by simp (disch := omega) only [hs_o, hs_k]) (by simp (disch := omega) only [hs_o, hs_k]) (by simp (disch := omega) only [hs_o, hs_k])⟩
  · unfold t_X2_addSight
    simp (disch := omega) only [fa_lit, nI_L, nI_G, nI_E, gi_in, nI_clamp, put_in, at_in, fact_in, setFact_in, bind_s, b2_s, bnd_e, hs_o, hs_eq, hs_k, nI_add, if_true, if_false, q1, hlt]
  · simp (disch := omega) only [fa_lit, nI_L, nI_G, nI_E, gi_in, nI_clamp, put_in, at_in, fact_in, setFact_in, bind_s, b2_s, bnd_e, hs_o, hs_eq, hs_k, nI_add, if_true, if_false, q2, hf]
  · obtain ⟨b1, b2, b3, b4, b5, b6⟩ := h6
    refine ⟨b1, by show k + 1 ≤ 7; omega, b3, fun i hi => ?_, b5, fun i hi => ?_⟩
    · by_cases hik : i = k
      · subst hik; simp [cset]; omega
      · simp only [cset, hik]; exact b4 i hi
    · have hi2 : i < k + 1 := hi
      by_cases hik : i = k
      · subst hik; simp [cset]; exact he
      · have := b6 i (by omega)
        simp only [cset, hik]; exact this
theorem RH_clue {σ : Hp} {H : Cp} {k a1 a2 a3 : Nat} (h : RH σ 5 H) : RH (hset (hset (hset (hset σ 6 k (nI a1)) 7 k (nI a2)) 8 k (nI a3)) 5 0 (nI (k + 1))) 5 (cset (cset (cset (cset H 1 k a1) 2 k a2) 3 k a3) 0 0 (k + 1)) := by
  obtain ⟨a, b, c, d⟩ := h
  refine ⟨by rw [hs_eq]; rfl, by simp (disch := omega) only [hs_o, hs_k]; exact b, fun i hi => ?_, fun i hi => by simp (disch := omega) only [hs_o, hs_k]; exact d i hi⟩
  by_cases hk : i = k
  · subst hk; simp (disch := omega) only [hs_o, hs_eq]; simp [cset]
  · simp (disch := omega) only [hs_o, hs_k]; simp only [cset, hk]; exact c i hi
theorem RN_clue {τ : Hp} {H : Cp} {k a1 a2 a3 : Nat} (h : RN τ H) : RN (hset (hset (hset (hset τ 7 k (nI a1)) 8 k (nI a2)) 9 k (nI a3)) 0 11 (nI (k + 1))) (cset (cset (cset (cset H 1 k a1) 2 k a2) 3 k a3) 0 0 (k + 1)) := by
  obtain ⟨a, b, c, d⟩ := h
  refine ⟨by rw [hs_eq]; rfl, by simp (disch := omega) only [hs_o, hs_k]; exact b, fun i hi => ?_, fun i hi => by simp (disch := omega) only [hs_o, hs_k]; exact d i hi⟩
  by_cases hk : i = k
  · subst hk; simp (disch := omega) only [hs_o, hs_eq]; simp [cset]
  · simp (disch := omega) only [hs_o, hs_k]; simp only [cset, hk]; exact c i hi
theorem clue_end {σ τ : Hp} (hR : Rl σ τ) {C H : Cp} {pn : Nat} {P : Nat → Nat} (h1 : RC σ 2 C) (h2 : RM τ C) (h3 : BC C) (h4 : RH σ 5 H) (h5 : RN τ H) (h6 : BH (C 0 0) H) (h7 : RP σ τ pn P) (h8 : RI σ τ 11 0) (h9 : RI σ τ 21 1) {w e f : Nat} (hw : w ≤ 3) (he : e < C 0 0) (hf : f < C 0 0) (hef : w < 2 → e ≠ f) : ∃ r : Int32, ∃ σ1 : Hp, ∃ τ1 : Hp, t_X6_clue_98 (nI w) (nI e) (nI f) σ = some (r, σ1) ∧ t_X7_clue_59 (nI w) (nI e) (nI f) τ = some (r, τ1) ∧ Rl σ1 τ1 := by
  have h31 := h3.1
  obtain ⟨k, hk⟩ : ∃ k, k = H 0 0 := ⟨_, rfl⟩
  have q1 : σ 5 0 = nI k := by rw [hk]; exact h4.1
  have q2 : τ 0 11 = nI k := by rw [hk]; exact h5.1
  have hk7 : k ≤ 12 := by rw [hk]; exact h6.1
  unfold t_X6_clue_98 t_X7_clue_59
  rw [q1, q2]
  by_cases hc : k = 12
  · rw [hc, if_neg (by decide), if_pos (by rfl)]; exact ⟨_, _, _, rfl, rfl, hR⟩
  have hlt : k < 12 := by omega
  refine ⟨nI (k + 1), hset (hset (hset (hset σ 6 k (nI w)) 7 k (nI e)) 8 k (nI f)) 5 0 (nI (k + 1)), hset (hset (hset (hset τ 7 k (nI w)) 8 k (nI e)) 9 k (nI f)) 0 11 (nI (k + 1)), ?_, ?_, C, cset (cset (cset (cset H 1 k w) 2 k e) 3 k f) 0 0 (k + 1), pn, P, RC_f h1 (fun a _ _ => by simp (disch := omega) only [hs_o, hs_k]), RM_f h2 (fun a _ _ => by simp (disch := omega) only [hs_o, hs_k]) (by simp (disch := omega) only [hs_o, hs_k]) (by simp (disch := omega) only [hs_o, hs_k]), h3, RH_clue h4, RN_clue h5, ?_, RP_fr h7 (by simp (disch := omega) only [hs_o, hs_k]) (by simp (disch := omega) only [hs_o, hs_k]) (by simp (disch := omega) only [hs_o, hs_k]) (by simp (disch := omega) only [hs_o, hs_k]), RI_fr h8 (fun a _ _ => by simp (disch := omega) only [hs_o, hs_k]) (by simp (disch := omega) only [hs_o, hs_k]) (by simp (disch := omega) only [hs_o, hs_k]), RI_fr h9 (fun a _ _ => by simp (disch := omega) only [hs_o, hs_k]) (by simp (disch := omega) only [hs_o, hs_k]) (by simp (disch := omega) only [hs_o, hs_k])⟩
  · unfold t_X2_addClue
    simp (disch := omega) only [fa_lit, nI_L, nI_G, nI_E, gi_in, nI_clamp, put_in, at_in, fact_in, setFact_in, bind_s, b2_s, bnd_e, hs_o, hs_eq, hs_k, nI_add, if_true, if_false, q1, hlt]
  · simp (disch := omega) only [fa_lit, nI_L, nI_G, nI_E, gi_in, nI_clamp, put_in, at_in, fact_in, setFact_in, bind_s, b2_s, bnd_e, hs_o, hs_eq, hs_k, nI_add, if_true, if_false, q2, hc]
  · obtain ⟨b1, b2, b3, b4, b5, b6⟩ := h6
    refine ⟨by show k + 1 ≤ 12; omega, b2, fun i hi => ?_, b4, fun i hi => ?_, b6⟩
    · by_cases hik : i = k
      · subst hik; simp [cset]; omega
      · simp only [cset, hik]; exact b3 i hi
    · have hi2 : i < k + 1 := hi
      by_cases hik : i = k
      · subst hik; simp [cset]; exact ⟨he, hf, hef⟩
      · have := b5 i (by omega)
        simp only [cset, hik]; exact this
theorem k_clue {σ τ : Hp} (hR : Rl σ τ) (p0 p1 p2 : Int32) : ∃ r : Int32, ∃ σ1 : Hp, ∃ τ1 : Hp, t_X6_clue p0 p1 p2 σ = some (r, σ1) ∧ t_X7_clue p0 p1 p2 τ = some (r, τ1) ∧ Rl σ1 τ1 := by
  obtain ⟨C, H, pn, P, h1, h2, h3, h4, h5, h6, h7, h8, h9⟩ := id hR
  have h31 := h3.1
  unfold t_X6_clue t_X7_clue
  rw [isWithin_e, in_l (a := 0) (b := 3) 0 3 rfl rfl, bind_s, bind_s]
  by_cases hq : p0 < 0 ∨ 3 < p0
  · rw [ite_0 hq, ite_0 hq]; exact ⟨_, _, _, rfl, rfl, hR⟩
  rw [ite_1 hq, ite_1 hq, has_e h1, isEgg_e h2 h3, bind_s, bind_s]
  obtain ⟨w, hw, rfl⟩ := rng_c (p := p0) (m := 3) (by decide) hq
  by_cases hq1 : p1 < 0 ∨ nI (C 0 0) ≤ p1
  · rw [ite_0 hq1, ite_0 hq1]; exact ⟨_, _, _, rfl, rfl, hR⟩
  rw [ite_1 hq1, ite_1 hq1]
  obtain ⟨e, he, rfl⟩ := egg_c h3.1.2 hq1
  by_cases hw2 : w < 2
  · have hX : ∀ x : Int32, (if nI w = 0 then x else if nI w = 1 then x else x) = x := fun x => by split <;> (try split) <;> rfl
    have e1 : (if nI w = 0 then t_X6_clue_37 (nI w) (nI e) p2 σ else if nI w = 1 then t_X6_clue_37 (nI w) (nI e) p2 σ else t_X6_clue_42 (nI w) (nI e) p2 0 σ) = t_X6_clue_42 (nI w) (nI e) p2 1 σ := by
      rcases (show w = 0 ∨ w = 1 by omega) with rfl | rfl
      · rfl
      · rfl
    rw [e1, if_neg (show ¬ (2 : Int32) ≤ nI w from nI_ge (a := w) (b := 2) hw2 (by omega)), isEgg_e h2 h3, bind_s]
    unfold t_X6_clue_42
    rw [if_neg (show ¬ (1 : Int32) = 0 by decide), has_e h1, bind_s]
    by_cases hq2 : p2 < 0 ∨ nI (C 0 0) ≤ p2
    · rw [ite_0 hq2, ite_0 hq2]; exact ⟨_, _, _, rfl, rfl, hR⟩
    rw [ite_1 hq2, ite_1 hq2]
    obtain ⟨f, hf, rfl⟩ := egg_c h3.1.2 hq2
    by_cases hef : e = f
    · subst hef
      rw [if_pos rfl, if_pos rfl]; exact ⟨_, _, _, rfl, rfl, hR⟩
    · rw [if_neg (fun h => hef ((nI_eq (by omega) (by omega)).mp h).symm), if_neg (fun h => hef ((nI_eq (by omega) (by omega)).mp h))]
      unfold t_X6_clue_70 t_X7_clue_43
      rw [if_neg (show ¬ (1 : Int32) = 0 by decide), if_pos (show nI w ≤ (1 : Int32) from nI_le (a := w) (b := 1) (by omega) (by omega))]
      exact clue_end hR h1 h2 h3 h4 h5 h6 h7 h8 h9 hw he hf (fun _ => hef)
  · have n0 : ¬ nI w = (0 : Int32) := fun h => by have := (nI_eq (by omega) (by omega)).mp (show nI w = nI 0 from h); omega
    have n1 : ¬ nI w = (1 : Int32) := fun h => by have := (nI_eq (by omega) (by omega)).mp (show nI w = nI 1 from h); omega
    rw [if_neg n0, if_neg n1, if_pos (show (2 : Int32) ≤ nI w from nI_le (a := 2) (b := w) (by omega) (by omega))]
    unfold t_X6_clue_42 t_X6_clue_70 t_X7_clue_43
    have e3 : (nI (C 0 0) - 1 < p2) = (nI (C 0 0) ≤ p2) := by
      rw [show (1 : Int32) = nI 1 from rfl, pk_sub h31.1, Int32.lt_iff_toInt_lt, Int32.le_iff_toInt_le, nI_toInt (by omega), nI_toInt (by omega)]
      apply propext; omega
    rw [if_pos rfl, if_pos rfl, isWithin_e, h1.1, bind_s, if_neg (show ¬ nI w ≤ (1 : Int32) from nI_ge (a := 1) (b := w) (by omega) (by omega)), isEgg_e h2 h3, bind_s]
    simp only [e3]
    by_cases hq2 : p2 < 0 ∨ nI (C 0 0) ≤ p2
    · rw [ite_0 hq2, ite_0 hq2]; exact ⟨_, _, _, rfl, rfl, hR⟩
    rw [ite_1 hq2, ite_1 hq2]
    obtain ⟨f, hf, rfl⟩ := egg_c h3.1.2 hq2
    exact clue_end hR h1 h2 h3 h4 h5 h6 h7 h8 h9 hw he hf (fun h => absurd h hw2)
