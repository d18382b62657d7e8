theorem hset_swap_self {τ : Hp} {o k a j : Nat} {v : Int32} (h : a ≠ o) : hset (hset τ o k v) a j (τ a j) = hset τ o k v := hset_self (by rw [hs_o h])
theorem hset_id {τ : Hp} {o k : Nat} : hset τ o k (τ o k) = τ := hset_self rfl
theorem egg64_e {τ : Hp} {e w v : Nat} (he : e < 7) (hw : w ≤ 3) : t_X7_egg_64 (nI e) (nI w) (nI v) τ = some (τ (1 + w) e, hset τ (1 + w) e (nI v)) := by
  unfold t_X7_egg_64 t_X7_egg_111 t_X7_egg_132 t_X7_egg_153 t_X7_egg_174
  rcases (show w = 0 ∨ w = 1 ∨ w = 2 ∨ w = 3 by omega) with rfl | rfl | rfl | rfl
  · simp (disch := omega) only [fa_lit, nI_E, gi_in, nI_clamp, bnd_e, if_true, if_false, hset_id, Nat.reduceEqDiff]
  · simp (disch := omega) only [fa_lit, nI_E, gi_in, nI_clamp, bnd_e, if_true, if_false, hset_id, Nat.reduceEqDiff]
  · simp (disch := omega) only [fa_lit, nI_E, gi_in, nI_clamp, bnd_e, if_true, if_false, hset_id, Nat.reduceEqDiff]
  · simp (disch := omega) only [fa_lit, nI_E, gi_in, nI_clamp, bnd_e, if_true, if_false, hset_id, Nat.reduceEqDiff]
theorem egg49_e {σ : Hp} {e w v : Nat} (he : e < 7) (hw : w ≤ 3) : t_X6_egg_49 (nI e) (nI w) (nI v) σ = some (σ 4 (e * 5 + w), hset σ 4 (e * 5 + w) (nI v)) := by
  unfold t_X6_egg_49
  rw [fact_in he (by omega), bind_s, setFact_in he (by omega)]; rfl
theorem isFactFor_e (w : Nat) (hw : w ≤ 3) (p : Int32) : t_X6_isFactFor (nI w) p = some (if p < (if w = 0 then 1 else 0) ∨ (if w = 2 then 99 else if w = 3 then 5 else 9) < p then 0 else 1) := by
  unfold t_X6_isFactFor
  have hz : ∀ c : Prop, ∀ [Decidable c], zb (if c then (0 : Int32) else 1) (some (if c then (0 : Int32) else 1)) = some (if c then 0 else 1) := fun c _ => by by_cases h : c <;> simp only [h, if_true, if_false] <;> rfl
  rcases (show w = 0 ∨ w = 1 ∨ w = 2 ∨ w = 3 by omega) with rfl | rfl | rfl | rfl
  · rw [if_pos (by rfl), isWithin_e, bind_s, hz]; rfl
  · rw [if_neg (by decide), if_pos (by rfl), isWithin_e, bind_s, hz]; rfl
  · rw [if_neg (by decide), if_neg (by decide), if_pos (by rfl), isWithin_e, bind_s, hz]; rfl
  · rw [if_neg (by decide), if_neg (by decide), if_neg (by decide), if_pos (by rfl), isWithin_e, bind_s, hz]; rfl
theorem isFactFor_o {p q : Int32} (h : p < 0 ∨ 3 < p) : t_X6_isFactFor p q = some 0 := by
  have key : ∀ k : Nat, k ≤ 3 → ¬ p = nI k := by
    intro k hk e
    subst e
    rw [Int32.lt_iff_toInt_lt, Int32.lt_iff_toInt_lt, nI_toInt (by omega)] at h
    have h0 : (0 : Int32).toInt = 0 := rfl
    have h3 : (3 : Int32).toInt = 3 := rfl
    omega
  unfold t_X6_isFactFor
  rw [if_neg (show ¬ p = 0 from key 0 (by omega)), if_neg (show ¬ p = 1 from key 1 (by omega)), if_neg (show ¬ p = 2 from key 2 (by omega)), if_neg (show ¬ p = 3 from key 3 (by omega))]
theorem egg33_e {τ : Hp} {e w : Nat} (he : e < 7) (hw : w ≤ 3) (p : Int32) : t_X7_egg_33 (nI e) (nI w) p p.toInt64 (if w = 0 then 1 else 0) τ = (if p < (if w = 0 then 1 else 0) ∨ (if w = 2 then 99 else if w = 3 then 5 else 9) < p then some ((-2), τ) else if w = 1 then (if τ 5 e = 0 then t_X7_egg_64 (nI e) (nI w) p τ else some ((-3), τ)) else t_X7_egg_64 (nI e) (nI w) p τ) := by
  unfold t_X7_egg_33 t_X7_greatest
  rcases (show w = 0 ∨ w = 1 ∨ w = 2 ∨ w = 3 by omega) with rfl | rfl | rfl | rfl
  · rw [if_neg (by decide), if_neg (by decide), bind_s, if_pos rfl, in_l (a := 1) (b := (9 : Int32).toInt64) 1 9 rfl rfl, bind_s, if_neg (show ¬ nI 0 = 1 by decide)]
    by_cases hq : p < 1 ∨ 9 < p
    · rw [ite_0 hq]; exact (if_pos hq).symm
    · rw [ite_1 hq]; exact (if_neg hq).symm
  · rw [if_neg (by decide), if_neg (by decide), bind_s, if_neg (by decide), in_l (a := 0) (b := (9 : Int32).toInt64) 0 9 rfl rfl, bind_s, if_pos (show nI 1 = 1 from rfl), gi_in he (by omega), nI_clamp (by omega)]
    by_cases hq : p < 0 ∨ 9 < p
    · rw [ite_0 hq]; exact (if_pos hq).symm
    · rw [ite_1 hq]; exact (if_neg hq).symm
  · rw [if_pos (by rfl), bind_s, if_neg (by decide), in_l (a := 0) (b := (99 : Int32).toInt64) 0 99 rfl rfl, bind_s, if_neg (show ¬ nI 2 = 1 by decide)]
    by_cases hq : p < 0 ∨ 99 < p
    · rw [ite_0 hq]; exact (if_pos hq).symm
    · rw [ite_1 hq]; exact (if_neg hq).symm
  · rw [if_neg (by decide), if_pos (by rfl), bind_s, if_neg (by decide), in_l (a := 0) (b := (5 : Int32).toInt64) 0 5 rfl rfl, bind_s, if_neg (show ¬ nI 3 = 1 by decide)]
    by_cases hq : p < 0 ∨ 5 < p
    · rw [ite_0 hq]; exact (if_pos hq).symm
    · rw [ite_1 hq]; exact (if_neg hq).symm
theorem k_egg {σ τ : Hp} (hR : Rl σ τ) (p0 p1 p2 : Int32) : ∃ r : Int32, ∃ σ1 : Hp, ∃ τ1 : Hp, t_X6_egg p0 p1 p2 σ = some (r, σ1) ∧ t_X7_egg p0 p1 p2 τ = some (r, τ1) ∧ Rl σ1 τ1 := by
  obtain ⟨C, H, pn, P, h1, h2, h3, h4, h5, h6, h7, h8, h9⟩ := id hR
  have h31 := h3.1
  unfold t_X6_egg t_X7_egg
  rw [has_e h1, isEgg_e h2 h3, bind_s, bind_s]
  by_cases hq : p0 < 0 ∨ nI (C 0 0) ≤ p0
  · rw [ite_0 hq, ite_0 hq]; exact ⟨_, _, _, rfl, rfl, hR⟩
  rw [ite_1 hq, ite_1 hq, in_l (a := 0) (b := 3) 0 3 rfl rfl, bind_s]
  obtain ⟨e, he, rfl⟩ := egg_c h3.1.2 hq
  have he7 : e < 7 := by omega
  by_cases hq1 : p1 < 0 ∨ 3 < p1
  · rw [ite_0 hq1, isFactFor_o hq1, bind_s]; exact ⟨_, _, _, rfl, rfl, hR⟩
  obtain ⟨w, hw, rfl⟩ := rng_c (p := p1) (m := 3) (by decide) hq1
  have em : (if nI w = 0 then t_X7_egg_33 (nI e) (nI w) p2 p2.toInt64 1 τ else t_X7_egg_33 (nI e) (nI w) p2 p2.toInt64 0 τ) = t_X7_egg_33 (nI e) (nI w) p2 p2.toInt64 (if w = 0 then 1 else 0) τ := by
    rcases (show w = 0 ∨ w = 1 ∨ w = 2 ∨ w = 3 by omega) with rfl | rfl | rfl | rfl <;> rfl
  rw [ite_1 hq1, em, egg33_e he7 hw, isFactFor_e w hw, bind_s]
  by_cases hq2 : p2 < (if w = 0 then 1 else 0) ∨ (if w = 2 then 99 else if w = 3 then 5 else 9) < p2
  · rw [ite_0 hq2, if_pos hq2]; exact ⟨_, _, _, rfl, rfl, hR⟩
  rw [ite_1 hq2, if_neg hq2]
  obtain ⟨v, rfl, hv⟩ : ∃ v : Nat, p2 = nI v ∧ okF w v := by
    have c0 : (0 : Int32).toInt = 0 := rfl
    have c1 : (1 : Int32).toInt = 1 := rfl
    have c9 : (9 : Int32).toInt = 9 := rfl
    have c5 : (5 : Int32).toInt = 5 := rfl
    have c99 : (99 : Int32).toInt = 99 := rfl
    rcases (show w = 0 ∨ w = 1 ∨ w = 2 ∨ w = 3 by omega) with rfl | rfl | rfl | rfl
    · have hq3 : ¬ (p2 < 1 ∨ 9 < p2) := hq2
      rw [Int32.lt_iff_toInt_lt, Int32.lt_iff_toInt_lt] at hq3
      obtain ⟨v, hv, rfl⟩ := rng_c (p := p2) (m := 9) (by decide) (by rw [Int32.lt_iff_toInt_lt, Int32.lt_iff_toInt_lt, nI_toInt (by omega)]; omega)
      rw [nI_toInt (by omega)] at hq3
      exact ⟨v, rfl, ⟨fun _ => by omega, fun h => by omega, fun h => by omega, fun h => by omega, fun h => by omega⟩⟩
    · have hq3 : ¬ (p2 < 0 ∨ 9 < p2) := hq2
      obtain ⟨v, hv, rfl⟩ := rng_c (p := p2) (m := 9) (by decide) hq3
      exact ⟨v, rfl, ⟨fun h => by omega, fun _ => by omega, fun h => by omega, fun h => by omega, fun h => by omega⟩⟩
    · have hq3 : ¬ (p2 < 0 ∨ 99 < p2) := hq2
      obtain ⟨v, hv, rfl⟩ := rng_c (p := p2) (m := 99) (by decide) hq3
      exact ⟨v, rfl, ⟨fun h => by omega, fun h => by omega, fun _ => by omega, fun h => by omega, fun h => by omega⟩⟩
    · have hq3 : ¬ (p2 < 0 ∨ 5 < p2) := hq2
      obtain ⟨v, hv, rfl⟩ := rng_c (p := p2) (m := 5) (by decide) hq3
      exact ⟨v, rfl, ⟨fun h => by omega, fun h => by omega, fun h => by omega, fun _ => by omega, fun h => by omega⟩⟩
  rw [egg64_e he7 hw, egg49_e he7 hw]
  have hk := h2.2.2.2 e he7
  have hX : σ 4 (e * 5 + w) = τ (1 + w) e := by
    have hd := h1.2.2.2 (e * 5 + w) (by omega)
    rcases (show w = 0 ∨ w = 1 ∨ w = 2 ∨ w = 3 by omega) with rfl | rfl | rfl | rfl
    · exact hd.trans hk.1.symm
    · exact hd.trans hk.2.1.symm
    · exact hd.trans hk.2.2.1.symm
    · exact hd.trans hk.2.2.2.1.symm
  have fin := Rl_fact h1 h2 h3 h4 h5 h6 h7 h8 h9 he7 (show w < 5 by omega) hv rfl
  by_cases hw1 : w = 1
  · subst hw1
    rw [if_pos (show nI 1 = 1 from rfl), isWhole_in he7, bind_s, if_pos rfl, hk.2.2.2.2, h1.2.2.2 (e * 5 + 4) (by omega)]
    by_cases hz : C 2 (e * 5 + 4) = 0
    · rw [hz, if_pos (show nI 0 = (0 : Int32) from rfl), if_pos rfl]
      refine ⟨τ (1 + 1) e, _, _, ?_, rfl, fin⟩
      rw [← hX]; rfl
    · have hz2 : ¬ nI (C 2 (e * 5 + 4)) = (0 : Int32) := fun h => by
        have := (h3.2.2.2.2.2 e he7).2.2.2.2
        have := (nI_eq (by omega) (by omega)).mp (show nI (C 2 (e * 5 + 4)) = nI 0 from h); omega
      rw [if_neg (show ¬ nI (C 2 (e * 5 + 4)) = nI 0 from hz2), if_pos (show nI 0 = (0 : Int32) from rfl), if_neg hz2]
      exact ⟨_, _, _, rfl, rfl, hR⟩
  · have hw2 : ¬ nI w = (1 : Int32) := fun h => by
      have := (nI_eq (by omega) (by omega)).mp (show nI w = nI 1 from h); omega
    rw [if_neg hw2, if_neg hw1]
    exact ⟨_, _, _, rfl, by rw [hX], fin⟩
