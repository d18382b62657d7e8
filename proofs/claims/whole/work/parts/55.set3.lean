theorem condition_e {σ : Hp} {o : Nat} {C : Cp} (h : RC σ o C) {e w : Nat} (he : e < 7) (hw : w ≤ 2) : t_X0_condition o (nI e) (nI w) σ = some (nI (C 2 (e * 5 + (if w = 0 then 1 else if w = 1 then 3 else 4)))) := by
  obtain ⟨_, _, _, d⟩ := h
  unfold t_X0_condition t_X0_condition_23
  rcases (show w = 0 ∨ w = 1 ∨ w = 2 by omega) with rfl | rfl | rfl
  · rw [if_pos (by rfl), show (1 : Int32) = nI 1 from rfl, fact_in he (by omega), bind_s, d _ (by omega)]; rfl
  · rw [if_neg (by decide), if_pos (by rfl), show (3 : Int32) = nI 3 from rfl, fact_in he (by omega), bind_s, d _ (by omega)]; rfl
  · rw [if_neg (by decide), if_neg (by decide), show (4 : Int32) = nI 4 from rfl, fact_in he (by omega), bind_s, d _ (by omega)]; rfl
theorem stateOf_e {τ : Hp} {C : Cp} (h : RM τ C) {e w : Nat} (he : e < 7) (hw : w ≤ 2) : t_X7_stateOf (nI e) (nI w) τ = some (nI (C 2 (e * 5 + (if w = 0 then 1 else if w = 1 then 3 else 4)))) := by
  obtain ⟨_, _, _, d⟩ := h
  obtain ⟨d1, d2, d3, d4, d5⟩ := d e he
  unfold t_X7_stateOf
  rcases (show w = 0 ∨ w = 1 ∨ w = 2 by omega) with rfl | rfl | rfl
  · rw [if_pos (by rfl), gi_in he (by omega), nI_clamp (by omega), d2]; rfl
  · rw [if_neg (by decide), if_pos (by rfl), gi_in he (by omega), nI_clamp (by omega), d4]; rfl
  · rw [if_neg (by decide), if_neg (by decide), gi_in he (by omega), nI_clamp (by omega), d5]; rfl
theorem k_state {σ τ : Hp} (hR : Rl σ τ) (p0 p1 : Int32) : ∃ r : Int32, t_X6_state p0 p1 σ = some r ∧ t_X7_state p0 p1 τ = some r ∧ Rl σ τ := by
  obtain ⟨C, H, pn, P, h1, h2, h3, h4, h5, h6, h7, h8, h9⟩ := id hR
  have h31 := h3.1
  unfold t_X6_state t_X7_state
  rw [has_e h1, isEgg_e h2 h3, bind_s, bind_s]
  by_cases hq : p0 < 0 ∨ nI (C 0 0) ≤ p0
  · rw [ite_0 hq, ite_0 hq]; exact ⟨_, rfl, rfl, hR⟩
  rw [ite_1 hq, ite_1 hq, isWithin_e, in_l (a := 0) (b := 2) 0 2 rfl rfl, bind_s, bind_s]
  obtain ⟨e, he, rfl⟩ := egg_c h3.1.2 hq
  by_cases hq2 : p1 < 0 ∨ 2 < p1
  · rw [ite_0 hq2, ite_0 hq2]; exact ⟨_, rfl, rfl, hR⟩
  rw [ite_1 hq2, ite_1 hq2]
  obtain ⟨w, hw, rfl⟩ := rng_c (p := p1) (m := 2) (by decide) hq2
  rw [condition_e h1 (by omega) hw, stateOf_e h2 (by omega) hw]
  exact ⟨_, rfl, rfl, hR⟩
/-! facts of an egg are set -/
theorem RC_fact {σ : Hp} {o : Nat} {C : Cp} (h : RC σ o C) {j v : Nat} : RC (hset σ (o + 2) j (nI v)) o (cset C 2 j v) := by
  obtain ⟨a, b, c, d⟩ := h
  refine ⟨by rw [hs_o (by omega)]; exact a, by rw [hs_o (by omega)]; exact b, fun p hp => by rw [hs_o (by omega)]; exact c p hp, fun i hi => ?_⟩
  by_cases hij : i = j
  · subst hij; rw [hs_eq]; simp [cset]
  · rw [hs_k hij]; simp only [cset, hij]; exact d i hi
theorem cset_ne {C : Cp} {i j v a b : Nat} (h : ¬ (a = i ∧ b = j)) : cset C i j v a b = C a b := if_neg h
theorem cset_eq {C : Cp} {i j v : Nat} : cset C i j v i j = v := if_pos ⟨rfl, rfl⟩
theorem RM_fact {τ : Hp} {C : Cp} (h : RM τ C) {e k v : Nat} (he : e < 7) (hk : k < 5) : RM (hset τ (1 + k) e (nI v)) (cset C 2 (e * 5 + k) v) := by
  obtain ⟨a, b, c, d⟩ := h
  refine ⟨by rw [hs_o (by omega)]; exact a, by rw [hs_o (by omega)]; exact b, fun p hp => by rw [hs_o (by omega)]; exact c p hp, fun i hi => ?_⟩
  obtain ⟨d1, d2, d3, d4, d5⟩ := d i hi
  by_cases hie : i = e
  · subst hie
    rcases (show k = 0 ∨ k = 1 ∨ k = 2 ∨ k = 3 ∨ k = 4 by omega) with rfl | rfl | rfl | rfl | rfl
    · refine ⟨by rw [hs_eq]; exact congrArg nI cset_eq.symm, by rw [hs_o (by omega), cset_ne (by omega)]; exact d2, by rw [hs_o (by omega), cset_ne (by omega)]; exact d3, by rw [hs_o (by omega), cset_ne (by omega)]; exact d4, by rw [hs_o (by omega), cset_ne (by omega)]; exact d5⟩
    · refine ⟨by rw [hs_o (by omega), cset_ne (by omega)]; exact d1, by rw [hs_eq, cset_eq], by rw [hs_o (by omega), cset_ne (by omega)]; exact d3, by rw [hs_o (by omega), cset_ne (by omega)]; exact d4, by rw [hs_o (by omega), cset_ne (by omega)]; exact d5⟩
    · refine ⟨by rw [hs_o (by omega), cset_ne (by omega)]; exact d1, by rw [hs_o (by omega), cset_ne (by omega)]; exact d2, by rw [hs_eq, cset_eq], by rw [hs_o (by omega), cset_ne (by omega)]; exact d4, by rw [hs_o (by omega), cset_ne (by omega)]; exact d5⟩
    · refine ⟨by rw [hs_o (by omega), cset_ne (by omega)]; exact d1, by rw [hs_o (by omega), cset_ne (by omega)]; exact d2, by rw [hs_o (by omega), cset_ne (by omega)]; exact d3, by rw [hs_eq, cset_eq], by rw [hs_o (by omega), cset_ne (by omega)]; exact d5⟩
    · refine ⟨by rw [hs_o (by omega), cset_ne (by omega)]; exact d1, by rw [hs_o (by omega), cset_ne (by omega)]; exact d2, by rw [hs_o (by omega), cset_ne (by omega)]; exact d3, by rw [hs_o (by omega), cset_ne (by omega)]; exact d4, by rw [hs_eq, cset_eq]⟩
  · have hv : ∀ a, (hset τ (1 + k) e (nI v)) a i = τ a i := fun a => by
      by_cases ha : a = 1 + k
      · subst ha; rw [hs_k hie]
      · rw [hs_o ha]
    rw [hv, hv, hv, hv, hv, cset_ne (by omega), cset_ne (by omega), cset_ne (by omega), cset_ne (by omega), cset_ne (by omega)]
    exact ⟨d1, d2, d3, d4, d5⟩
def okF (k v : Nat) : Prop := (k = 0 → 1 ≤ v ∧ v ≤ 9) ∧ (k = 1 → v ≤ 9) ∧ (k = 2 → v ≤ 99) ∧ (k = 3 → v < 6) ∧ (k = 4 → v ≤ 2)
theorem BC_fact {C : Cp} (h : BC C) {e k v : Nat} (he : e < 7) (hk : k < 5) (hv : okF k v) : BC (cset C 2 (e * 5 + k) v) := by
  obtain ⟨a, b, c, d, f, g⟩ := h
  obtain ⟨v0, v1, v2, v3, v4⟩ := hv
  refine ⟨a, b, c, d, f, fun i hi => ?_⟩
  have gi := g i hi
  by_cases hie : i = e
  · subst hie
    rcases (show k = 0 ∨ k = 1 ∨ k = 2 ∨ k = 3 ∨ k = 4 by omega) with rfl | rfl | rfl | rfl | rfl
    · rw [cset_ne (b := i * 5 + 1) (by omega), cset_ne (b := i * 5 + 2) (by omega), cset_ne (b := i * 5 + 3) (by omega), cset_ne (b := i * 5 + 4) (by omega)]
      have := v0 rfl
      rw [show cset C 2 (i * 5 + 0) v 2 (i * 5) = v from cset_eq]; exact ⟨this, gi.2⟩
    · rw [cset_eq, cset_ne (b := i * 5) (by omega), cset_ne (b := i * 5 + 2) (by omega), cset_ne (b := i * 5 + 3) (by omega), cset_ne (b := i * 5 + 4) (by omega)]
      exact ⟨gi.1, v1 rfl, gi.2.2⟩
    · rw [cset_eq, cset_ne (b := i * 5) (by omega), cset_ne (b := i * 5 + 1) (by omega), cset_ne (b := i * 5 + 3) (by omega), cset_ne (b := i * 5 + 4) (by omega)]
      exact ⟨gi.1, gi.2.1, v2 rfl, gi.2.2.2⟩
    · rw [cset_eq, cset_ne (b := i * 5) (by omega), cset_ne (b := i * 5 + 1) (by omega), cset_ne (b := i * 5 + 2) (by omega), cset_ne (b := i * 5 + 4) (by omega)]
      exact ⟨gi.1, gi.2.1, gi.2.2.1, v3 rfl, gi.2.2.2.2⟩
    · rw [cset_eq, cset_ne (b := i * 5) (by omega), cset_ne (b := i * 5 + 1) (by omega), cset_ne (b := i * 5 + 2) (by omega), cset_ne (b := i * 5 + 3) (by omega)]
      exact ⟨gi.1, gi.2.1, gi.2.2.1, gi.2.2.2.1, v4 rfl⟩
  · rw [cset_ne (by omega), cset_ne (by omega), cset_ne (by omega), cset_ne (by omega), cset_ne (by omega)]
    exact gi
theorem Rl_fact {σ τ : Hp} {C H : Cp} {pn : Nat} {P : Nat → Nat} (h1 : RC σ 2 C) (h2 : RM τ C) (h3 : BC C) (h4 : RH σ 5 H) (h5 : RN τ H) (h6 : BH (C 0 0) H) (h7 : RP σ τ pn P) (h8 : RI σ τ 11 0) (h9 : RI σ τ 21 1) {e k v : Nat} (he : e < 7) (hk : k < 5) (hv : okF k v) {τ' : Hp} (ht : τ' = hset τ (1 + k) e (nI v)) : Rl (hset σ 4 (e * 5 + k) (nI v)) τ' := by
  subst ht
  exact ⟨cset C 2 (e * 5 + k) v, H, pn, P, RC_fact h1, RM_fact h2 he hk, BC_fact h3 he hk hv, RH_f h4 (fun a _ _ => by simp (disch := omega) only [hs_o, hs_k]), RN_f h5 (fun a _ _ => hs_o (by omega)) (by rw [hs_o (by omega)]) (by rw [hs_o (by omega)]), h6, RP_fr h7 (by simp (disch := omega) only [hs_o, hs_k]) (by simp (disch := omega) only [hs_o, hs_k]) (by rw [hs_o (by omega)]) (by rw [hs_o (by omega)]), RI_fr h8 (fun a _ _ => by simp (disch := omega) only [hs_o, hs_k]) (by rw [hs_o (by omega)]) (by rw [hs_o (by omega)]), RI_fr h9 (fun a _ _ => by simp (disch := omega) only [hs_o, hs_k]) (by rw [hs_o (by omega)]) (by rw [hs_o (by omega)])⟩
