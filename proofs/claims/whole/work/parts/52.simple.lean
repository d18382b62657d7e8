theorem in_l {p : Int32} {a b : Int64} (a' b' : Int32) (ha : a'.toInt64 = a) (hb : b'.toInt64 = b) : t_X7_in p.toInt64 a b = some (if p < a' ∨ b' < p then 0 else 1) := by
  subst ha; subst hb; exact in_w p a' b'
theorem ite_0 {α : Type} {c : Prop} [Decidable c] {a b : α} (h : c) : (if (if c then (0 : Int32) else 1) = 0 then a else b) = a := by rw [if_pos h]; rfl
theorem ite_1 {α : Type} {c : Prop} [Decidable c] {a b : α} (h : ¬ c) : (if (if c then (0 : Int32) else 1) = 0 then a else b) = b := by rw [if_neg h]; rfl
theorem has_e {σ : Hp} {o : Nat} {C : Cp} (h : RC σ o C) (p : Int32) : t_X0_has o p σ = some (if p < 0 ∨ nI (C 0 0) ≤ p then 0 else 1) := by
  unfold t_X0_has t_X0_has_16
  rw [h.1]
  by_cases h1 : p < 0
  · rw [if_pos h1, if_pos (Or.inl h1)]
  · by_cases h2 : nI (C 0 0) ≤ p
    · rw [if_neg h1, if_pos h2, if_pos (Or.inr h2)]
    · rw [if_neg h1, if_neg h2, if_neg (fun h => h.elim h1 h2)]
theorem isEgg_e {τ : Hp} {C : Cp} (h : RM τ C) (b : BC C) (p : Int32) : t_X7_isEgg p τ = some (if p < 0 ∨ nI (C 0 0) ≤ p then 0 else 1) := by
  have b1 := b.1
  have e : (nI (C 0 0) - 1 < p) = (nI (C 0 0) ≤ p) := by
    rw [show (1 : Int32) = nI 1 from rfl, pk_sub b1.1, Int32.lt_iff_toInt_lt, Int32.le_iff_toInt_le, nI_toInt (by omega), nI_toInt (by omega)]
    apply propext; omega
  unfold t_X7_isEgg
  rw [h.1, in_l (a := 0) (b := (nI (C 0 0) - 1).toInt64) 0 (nI (C 0 0) - 1) rfl rfl, bind_s]
  simp only [e]
  by_cases hq : p < 0 ∨ nI (C 0 0) ≤ p
  · rw [if_pos hq]; rfl
  · rw [if_neg hq]; rfl
theorem isHouse_e (p : Int32) : t_X7_isHouse p = some (if p < 0 ∨ 5 < p then 0 else 1) := by
  unfold t_X7_isHouse
  rw [in_l (a := 0) (b := 5) 0 5 rfl rfl, bind_s]
  by_cases hq : p < 0 ∨ 5 < p
  · rw [if_pos hq]; rfl
  · rw [if_neg hq]; rfl
theorem egg_c {p : Int32} {n : Nat} (hn : n ≤ 7) (h : ¬ (p < 0 ∨ nI n ≤ p)) : ∃ e, e < n ∧ p = nI e := by
  rcases pk_ix p (n := n) (by omega) with q | q | q
  · exact absurd (Or.inl q) h
  · exact absurd (Or.inr q) h
  · exact q
theorem rng_c {p : Int32} {m : Nat} (hm : m < 2 ^ 31 - 1) (h : ¬ (p < 0 ∨ nI m < p)) : ∃ e, e ≤ m ∧ p = nI e := by
  rcases pk_ix p (n := m + 1) (by omega) with q | q | ⟨j, q1, q2⟩
  · exact absurd (Or.inl q) h
  · exact absurd (Or.inr (by rw [Int32.lt_iff_toInt_lt, nI_toInt (by omega)]; rw [Int32.le_iff_toInt_le, nI_toInt (by omega)] at q; omega)) h
  · exact ⟨j, by omega, q2⟩
theorem RC_f {σ σ' : Hp} {o : Nat} {C : Cp} (h : RC σ o C) (e : ∀ a, o ≤ a → a ≤ o + 2 → σ' a = σ a) : RC σ' o C := RC_fr h (e _ (by omega) (by omega)) (e _ (by omega) (by omega)) (e _ (by omega) (by omega))
theorem RH_f {σ σ' : Hp} {o : Nat} {H : Cp} (h : RH σ o H) (e : ∀ a, o ≤ a → a ≤ o + 5 → σ' a = σ a) : RH σ' o H := RH_fr h (e _ (by omega) (by omega)) (e _ (by omega) (by omega)) (e _ (by omega) (by omega)) (e _ (by omega) (by omega)) (e _ (by omega) (by omega)) (e _ (by omega) (by omega))
theorem RM_f {τ τ' : Hp} {C : Cp} (h : RM τ C) (e : ∀ a, 1 ≤ a → a ≤ 6 → τ' a = τ a) (e0 : τ' 0 0 = τ 0 0) (e7 : τ' 0 7 = τ 0 7) : RM τ' C := RM_fr h e0 e7 (e _ (by omega) (by omega)) (e _ (by omega) (by omega)) (e _ (by omega) (by omega)) (e _ (by omega) (by omega)) (e _ (by omega) (by omega)) (e _ (by omega) (by omega))
theorem RN_f {τ τ' : Hp} {H : Cp} (h : RN τ H) (e : ∀ a, 7 ≤ a → a ≤ 11 → τ' a = τ a) (e0 : τ' 0 11 = τ 0 11) (e1 : τ' 0 14 = τ 0 14) : RN τ' H := RN_fr h e0 e1 (e _ (by omega) (by omega)) (e _ (by omega) (by omega)) (e _ (by omega) (by omega)) (e _ (by omega) (by omega)) (e _ (by omega) (by omega))
theorem k_wipe {σ τ : Hp} (hR : Rl σ τ) : ∃ r : Int32, ∃ σ1 : Hp, ∃ τ1 : Hp, t_X6_wipe σ = some (r, σ1) ∧ t_X7_wipe τ = some (r, τ1) ∧ Rl σ1 τ1 := by
  obtain ⟨C, H, pn, P, h1, h2, h3, h4, h5, h6, h7, h8, h9⟩ := hR
  obtain ⟨q1, q2, q3, q4⟩ := h7
  refine ⟨nI pn, hset σ 31 0 0, hset τ 0 16 0, ?_, ?_, C, H, 0, P, ?_, ?_, h3, ?_, ?_, h6, ?_, ?_, ?_⟩
  · unfold t_X6_wipe; rw [q1]; rfl
  · unfold t_X7_wipe; rw [q2]; rfl
  · exact RC_f h1 (fun a _ _ => by simp (disch := omega) only [hs_o])
  · exact RM_f h2 (fun a _ _ => by simp (disch := omega) only [hs_o]) (by simp (disch := omega) only [hs_o, hs_k]) (by simp (disch := omega) only [hs_o, hs_k])
  · exact RH_f h4 (fun a _ _ => by simp (disch := omega) only [hs_o])
  · exact RN_f h5 (fun a _ _ => by simp (disch := omega) only [hs_o]) (by simp (disch := omega) only [hs_o, hs_k]) (by simp (disch := omega) only [hs_o, hs_k])
  · exact ⟨hs_eq, hs_eq, by omega, fun i hi => by rw [hs_o (by decide), hs_o (by decide)]; exact q4 i hi⟩
  · exact RI_fr h8 (fun a _ _ => by simp (disch := omega) only [hs_o]) (by simp (disch := omega) only [hs_o]) (by simp (disch := omega) only [hs_o])
  · exact RI_fr h9 (fun a _ _ => by simp (disch := omega) only [hs_o]) (by simp (disch := omega) only [hs_o]) (by simp (disch := omega) only [hs_o])
theorem k_say {σ τ : Hp} (hR : Rl σ τ) (p0 : Int32) : ∃ r : Int32, ∃ σ1 : Hp, ∃ τ1 : Hp, t_X6_say p0 σ = some (r, σ1) ∧ t_X7_say p0 τ = some (r, τ1) ∧ Rl σ1 τ1 := by
  obtain ⟨C, H, pn, P, h1, h2, h3, h4, h5, h6, h7, h8, h9⟩ := id hR
  obtain ⟨q1, q2, q3, q4⟩ := h7
  unfold t_X6_say t_X7_say
  rw [isWithin_e, in_l (a := 33) (b := 126) 33 126 rfl rfl, bind_s, bind_s]
  by_cases hq : p0 < 33 ∨ 126 < p0
  · rw [ite_0 hq, ite_0 hq]; exact ⟨_, _, _, rfl, rfl, hR⟩
  rw [ite_1 hq, ite_1 hq, q1, q2]
  by_cases hf : pn = 60
  · subst hf
    rw [if_neg (by decide), if_pos (by rfl)]; exact ⟨_, _, _, rfl, rfl, hR⟩
  have hlt : pn < 60 := by omega
  obtain ⟨v, hv, rfl⟩ : ∃ v : Nat, v ≤ 126 ∧ p0 = nI v := rng_c (by decide) (fun h => h.elim (fun h => hq (Or.inl (by rw [Int32.lt_iff_toInt_lt] at *; have : (0 : Int32).toInt = 0 := rfl; have : (33 : Int32).toInt = 33 := rfl; omega))) (fun h => hq (Or.inr h)))
  refine ⟨nI (pn + 1), hset (hset σ 32 pn (nI v)) 31 0 (nI (pn + 1)), hset (hset τ 12 pn (nI v)) 0 16 (nI (pn + 1)), ?_, ?_, C, H, pn + 1, fun i => if i = pn then v else P i, ?_, ?_, h3, ?_, ?_, h6, ?_, ?_, ?_⟩
  · unfold t_X3_add
    simp (disch := omega) only [q1, fa_lit, nI_L, put_in, bind_s, bnd_e, hs_o, hs_eq, nI_add, hlt, if_true]
  · simp (disch := omega) only [q2, fa_lit, nI_E, gi_in, nI_clamp, bnd_e, hs_o, hs_eq, nI_add, hf, if_false]
  · exact RC_f h1 (fun a _ _ => by simp (disch := omega) only [hs_o])
  · exact RM_f h2 (fun a _ _ => by simp (disch := omega) only [hs_o]) (by simp (disch := omega) only [hs_o, hs_k]) (by simp (disch := omega) only [hs_o, hs_k])
  · exact RH_f h4 (fun a _ _ => by simp (disch := omega) only [hs_o])
  · exact RN_f h5 (fun a _ _ => by simp (disch := omega) only [hs_o]) (by simp (disch := omega) only [hs_o, hs_k]) (by simp (disch := omega) only [hs_o, hs_k])
  · refine ⟨hs_eq, hs_eq, by omega, fun i hi => ?_⟩
    by_cases hi2 : i = pn
    · subst hi2; simp (disch := omega) only [hs_o, hs_eq, if_true]; exact ⟨trivial, trivial, hv⟩
    · simp (disch := omega) only [hs_o, hs_k, hi2, if_false]; exact q4 i hi
  · exact RI_fr h8 (fun a _ _ => by simp (disch := omega) only [hs_o]) (by simp (disch := omega) only [hs_o]) (by simp (disch := omega) only [hs_o])
  · exact RI_fr h9 (fun a _ _ => by simp (disch := omega) only [hs_o]) (by simp (disch := omega) only [hs_o]) (by simp (disch := omega) only [hs_o])
