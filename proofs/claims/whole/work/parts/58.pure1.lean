theorem ite_or {α : Type} {p q : Prop} [Decidable p] [Decidable q] {a b : α} : (if p then a else if q then a else b) = if p ∨ q then a else b := by
  by_cases h : p
  · rw [if_pos h, if_pos (Or.inl h)]
  · by_cases h2 : q
    · rw [if_neg h, if_pos h2, if_pos (Or.inr h2)]
    · rw [if_neg h, if_neg h2, if_neg (fun z => z.elim h h2)]
theorem nI_m1 {m : Nat} : nI (m + 1) + (-1) = nI m := pk_m1 m
theorem nI_neg1 : nI 0 + (-1) < (0 : Int32) := by decide
theorem toldE_a {τ : Hp} {C : Cp} (h2 : RM τ C) (h3 : BC C) {e k : Nat} (he : e < C 0 0) (h5 : k < 5) : t_X7_toldOfEgg (nI e) (nI k) τ = some (nI (C 2 (e * 5 + k))) := by
  have h31 := h3.1
  obtain ⟨d1, d2, d3, d4, d5⟩ := h2.2.2.2 e (by omega)
  have hq : ¬ (nI e < 0 ∨ nI (C 0 0) ≤ nI e) := fun h => h.elim (nI_pos (by omega)) (nI_ge he (by omega))
  unfold t_X7_toldOfEgg
  rw [isEgg_e h2 h3, bind_s, ite_1 hq, gi_in (by omega) (by omega), gi_in (by omega) (by omega), gi_in (by omega) (by omega), gi_in (by omega) (by omega), gi_in (by omega) (by omega), nI_clamp (by omega), d1, d2, d3, d4, d5]
  rcases (show k = 0 ∨ k = 1 ∨ k = 2 ∨ k = 3 ∨ k = 4 by omega) with rfl | rfl | rfl | rfl | rfl <;> rfl
theorem toldE_b {τ : Hp} {C : Cp} (h2 : RM τ C) (h3 : BC C) {e k : Nat} (he : e < C 0 0) (h5 : ¬ k < 5) (hk : k < 100) : t_X7_toldOfEgg (nI e) (nI k) τ = some (-2) := by
  have h31 := h3.1
  have hq : ¬ (nI e < 0 ∨ nI (C 0 0) ≤ nI e) := fun h => h.elim (nI_pos (by omega)) (nI_ge he (by omega))
  unfold t_X7_toldOfEgg
  rw [isEgg_e h2 h3, bind_s, ite_1 hq]
  have n : ∀ j : Nat, j < 5 → ¬ nI k = nI j := fun j hj h => by have := (nI_eq (by omega) (by omega)).mp h; omega
  rw [if_neg (show ¬ nI k = 0 from n 0 (by omega)), if_neg (show ¬ nI k = 1 from n 1 (by omega)), if_neg (show ¬ nI k = 2 from n 2 (by omega)), if_neg (show ¬ nI k = 3 from n 3 (by omega)), if_neg (show ¬ nI k = 4 from n 4 (by omega))]
theorem wide_nI {n : Nat} (h : n ≤ 7) : (9 : Int64) + (nI n).toInt64 = (nI (9 + n)).toInt64 := by
  rw [nI_l (by omega), nI_l (by omega), show (9 : Int64) = lN 9 from rfl, lN_add]
theorem k_told {σ τ : Hp} (hR : Rl σ τ) (p0 : Int32) : ∃ r : Int32, t_X6_told p0 σ = some r ∧ t_X7_told p0 τ = some r ∧ Rl σ τ := by
  obtain ⟨C, H, pn, P, h1, h2, h3, h4, h5, h6, h7, h8, h9⟩ := id hR
  have h31 := h3.1
  unfold t_X6_told t_X7_told t_X6_told_185
  rw [isWithin_e, in_l (a := 20) (b := 89) 20 89 rfl rfl, h2.1, wide_nI h31.2, in_l (a := 10) (b := (nI (9 + C 0 0)).toInt64) 10 (nI (9 + C 0 0)) rfl rfl, bind_s, bind_s, bind_s, h1.1]
  have e1 : (10 : Int32) + nI (C 0 0) - 1 = nI (9 + C 0 0) := by
    rw [show (10 : Int32) = nI 10 from rfl, show (1 : Int32) = nI 1 from rfl, nI_add, pk_sub (by omega)]; congr 1; omega
  rw [e1]
  by_cases hneg : p0 < 0
  · have ng : ∀ k : Nat, k < 2 ^ 31 → ¬ p0 = nI k := fun k hk e => by rw [e] at hneg; exact nI_pos hk hneg
    have l20 : p0 < 20 := by rw [Int32.lt_iff_toInt_lt] at *; have c : (20 : Int32).toInt = 20 := rfl; have c0 : (0 : Int32).toInt = 0 := rfl; omega
    have l10 : p0 < 10 := by rw [Int32.lt_iff_toInt_lt] at *; have c : (10 : Int32).toInt = 10 := rfl; have c0 : (0 : Int32).toInt = 0 := rfl; omega
    have g20 : ¬ (20 : Int32) ≤ p0 := by rw [Int32.le_iff_toInt_le]; rw [Int32.lt_iff_toInt_lt] at l20; omega
    rw [if_neg (show ¬ p0 = 0 from ng 0 (by omega)), if_neg (show ¬ p0 = 1 from ng 1 (by omega)), if_neg (show ¬ p0 = 2 from ng 2 (by omega)), if_neg (show ¬ p0 = 3 from ng 3 (by omega)), if_neg (show ¬ p0 = 4 from ng 4 (by omega)), ite_0 (Or.inl l10), if_neg g20, ite_0 (Or.inl l20), ite_0 (Or.inl l10), if_neg (show ¬ p0 = 0 from ng 0 (by omega)), if_neg (show ¬ p0 = 1 from ng 1 (by omega)), if_neg (show ¬ p0 = 2 from ng 2 (by omega)), if_neg (show ¬ p0 = 3 from ng 3 (by omega)), if_neg (show ¬ p0 = 4 from ng 4 (by omega))]
    exact ⟨_, rfl, rfl, hR⟩
  obtain ⟨v, hv, rfl⟩ := nI_of hneg
  have lt : ∀ k : Nat, k < 2 ^ 31 → (nI v < nI k ↔ v < k) := fun k hk => nI_ltI hv hk
  have gt : ∀ k : Nat, k < 2 ^ 31 → (nI k < nI v ↔ k < v) := fun k hk => nI_ltI hk hv
  have ge : ∀ k : Nat, k < 2 ^ 31 → (nI k ≤ nI v ↔ k ≤ v) := fun k hk => nI_leI hk hv
  have eq : ∀ k : Nat, k < 2 ^ 31 → (nI v = nI k ↔ v = k) := fun k hk => nI_eq hv hk
  by_cases hv5 : v < 5
  · rw [ite_0 (show nI v < 20 ∨ 89 < nI v from Or.inl ((lt 20 (by omega)).mpr (by omega))), ite_0 (show nI v < 10 ∨ nI (9 + C 0 0) < nI v from Or.inl ((lt 10 (by omega)).mpr (by omega)))]
    rw [h4.1, h4.2.1, h1.2.1, h7.1, h5.1, h5.2.1, h2.2.1, h7.2.1]
    rcases (show v = 0 ∨ v = 1 ∨ v = 2 ∨ v = 3 ∨ v = 4 by omega) with rfl | rfl | rfl | rfl | rfl
    · exact ⟨_, rfl, rfl, hR⟩
    · exact ⟨_, rfl, rfl, hR⟩
    · exact ⟨_, rfl, rfl, hR⟩
    · exact ⟨_, rfl, rfl, hR⟩
    · exact ⟨_, rfl, rfl, hR⟩
  have n0 : ∀ k : Nat, k < 5 → ¬ nI v = nI k := fun k hk e => by have := (eq k (by omega)).mp e; omega
  rw [if_neg (show ¬ nI v = 0 from n0 0 (by omega)), if_neg (show ¬ nI v = 1 from n0 1 (by omega)), if_neg (show ¬ nI v = 2 from n0 2 (by omega)), if_neg (show ¬ nI v = 3 from n0 3 (by omega)), if_neg (show ¬ nI v = 4 from n0 4 (by omega)), if_neg (show ¬ nI v = 0 from n0 0 (by omega)), if_neg (show ¬ nI v = 1 from n0 1 (by omega)), if_neg (show ¬ nI v = 2 from n0 2 (by omega)), if_neg (show ¬ nI v = 3 from n0 3 (by omega)), if_neg (show ¬ nI v = 4 from n0 4 (by omega))]
  by_cases h10 : v < 10 ∨ 9 + C 0 0 < v
  · have w10 : nI v < 10 ∨ nI (9 + C 0 0) < nI v := h10.imp (fun h => (lt 10 (by omega)).mpr h) (fun h => (gt _ (by omega)).mpr h)
    rw [ite_0 w10, ite_0 w10]
    by_cases h20 : v < 20
    · rw [ite_0 (show nI v < 20 ∨ 89 < nI v from Or.inl ((lt 20 (by omega)).mpr h20)), if_neg (show ¬ (20 : Int32) ≤ nI v from fun h => by have := (ge 20 (by omega)).mp h; omega)]
      exact ⟨_, rfl, rfl, hR⟩
    · rw [if_pos (show (20 : Int32) ≤ nI v from (ge 20 (by omega)).mpr (by omega)), bnd_e, bnd_e]
      have d1 : nI v / 10 - 2 = nI (v / 10 - 2) := by rw [show (10 : Int32) = nI 10 from rfl, show (2 : Int32) = nI 2 from rfl, pk_div hv (by omega) (by omega), pk_sub (by omega)]
      have d2 : nI v - nI v / 10 * 10 = nI (v % 10) := by rw [show (10 : Int32) = nI 10 from rfl]; exact pk_rem hv (by omega) (by omega)
      rw [d1, d2, has_e h1, bind_s]
      by_cases he : v / 10 - 2 < C 0 0
      · rw [ite_1 (fun h => h.elim (nI_pos (by omega)) (nI_ge he (by omega)))]
        rw [ite_1 (show ¬ (nI v < 20 ∨ 89 < nI v) from fun h => h.elim (fun h => by have := (lt 20 (by omega)).mp h; omega) (fun h => by have := (gt 89 (by omega)).mp h; omega))]
        by_cases hk : v % 10 < 5
        · rw [if_neg (show ¬ (5 : Int32) ≤ nI (v % 10) from nI_ge (a := v % 10) (b := 5) hk (by omega)), fact_in (by omega) hk, bind_s, h1.2.2.2 _ (by omega), toldE_a h2 h3 he hk]
          exact ⟨_, rfl, rfl, hR⟩
        · rw [if_pos (show (5 : Int32) ≤ nI (v % 10) from nI_le (a := 5) (b := v % 10) (by omega) (by omega)), toldE_b h2 h3 he hk (by omega)]
          exact ⟨_, rfl, rfl, hR⟩
      · rw [ite_0 (Or.inr (nI_le (by omega) (by omega)))]
        by_cases h89 : v ≤ 89
        · rw [ite_1 (show ¬ (nI v < 20 ∨ 89 < nI v) from fun h => h.elim (fun h => by have := (lt 20 (by omega)).mp h; omega) (fun h => by have := (gt 89 (by omega)).mp h; omega))]
          unfold t_X7_toldOfEgg
          rw [isEgg_e h2 h3, bind_s, ite_0 (Or.inr (nI_le (by omega) (by omega)))]
          exact ⟨_, rfl, rfl, hR⟩
        · rw [ite_0 (show nI v < 20 ∨ 89 < nI v from Or.inr ((gt 89 (by omega)).mpr (by omega)))]
          exact ⟨_, rfl, rfl, hR⟩
  · have w10 : ¬ (nI v < 10 ∨ nI (9 + C 0 0) < nI v) := fun h => h10 (h.imp (fun h => (lt 10 (by omega)).mp h) (fun h => (gt _ (by omega)).mp h))
    rw [ite_1 w10, ite_1 w10, ite_0 (show nI v < 20 ∨ 89 < nI v from Or.inl ((lt 20 (by omega)).mpr (by omega)))]
    have d : nI v - 10 = nI (v - 10) := by rw [show (10 : Int32) = nI 10 from rfl, pk_sub (by omega)]
    rw [d, at_in (by omega) (by omega), bind_s, gi_in (by omega) (by omega), nI_clamp (by omega), h1.2.2.1 (v - 10) (by omega), h2.2.2.1 (v - 10) (by omega)]
    exact ⟨_, rfl, rfl, hR⟩
