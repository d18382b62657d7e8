/-! all as at first -/
def ini (j : Nat) : Nat := if j % 5 = 0 then 3 else if j % 5 = 2 then 1 else if j % 5 = 3 then j / 5 % 6 else 0
def C0 (n : Nat) : Cp := fun a b => if a = 0 then (if b = 0 then n else 0) else if a = 1 then b else ini b
theorem ini0 (e : Nat) : ini (e * 5) = 3 := by unfold ini; rw [if_pos (by omega)]
theorem ini1 (e : Nat) : ini (e * 5 + 1) = 0 := by unfold ini; rw [if_neg (by omega), if_neg (by omega), if_neg (by omega)]
theorem ini2 (e : Nat) : ini (e * 5 + 2) = 1 := by unfold ini; rw [if_neg (by omega), if_pos (by omega)]
theorem ini3 (e : Nat) : ini (e * 5 + 3) = e % 6 := by unfold ini; rw [if_neg (by omega), if_neg (by omega), if_pos (by omega), show (e * 5 + 3) / 5 = e by omega]
theorem ini4 (e : Nat) : ini (e * 5 + 4) = 0 := by unfold ini; rw [if_neg (by omega), if_neg (by omega), if_neg (by omega)]
theorem BC_C0 {n : Nat} (h1 : 1 ≤ n) (h2 : n ≤ 7) : BC (C0 n) := by
  refine ⟨⟨h1, h2⟩, (show 0 < 64 by omega), fun p hp => hp, fun p q _ _ h => h, fun p hp => hp, fun e he => ?_⟩
  have k : ∀ j, C0 n 2 j = ini j := fun _ => rfl
  rw [k, k, k, k, k, ini0, ini1, ini2, ini3, ini4]
  omega
theorem rem6 {i : Nat} (hi : i < 7) : nI i - nI i / 6 * 6 = nI (i % 6) := by
  rw [show (6 : Int32) = nI 6 from rfl]; exact pk_rem (by omega) (by omega) (by omega)
theorem startWith_e {σ : Hp} {o n N : Nat} (h1 : 1 ≤ n) (h2 : n ≤ 7) (hN : 7 < N) : ∃ σ', t_X0_startWith N o (nI n) σ = some σ' ∧ RC σ' o (C0 n) ∧ ∀ a, (a < o ∨ o + 2 < a) → σ' a = σ a := by
  have e1 : (if (0 : Int32) < (if (7 : Int32) < nI n then (7 : Int32) else nI n) then (if (7 : Int32) < nI n then (7 : Int32) else nI n) else 0) = nI n := by
    rw [if_neg (show ¬ (7 : Int32) < nI n from nI_nlt (a := 7) (b := n) h2 (by omega)), if_pos (show (0 : Int32) < nI n from nI_lt (a := 0) (b := n) (by omega) (by omega))]
  unfold t_X0_startWith t_X0_startWith_21
  rw [e1, bnd_e, bnd_e]
  refine (li2 _ (fun i v s => v = nI i ∧ s o 0 = nI n ∧ s o 1 = nI 0 ∧ (∀ p, p < i → s (o + 1) p = nI p) ∧ (∀ j, j < i * 5 → s (o + 2) j = nI (ini j)) ∧ ∀ a, (a < o ∨ o + 2 < a) → s a = σ a) (fun s => RC s o (C0 n) ∧ ∀ a, (a < o ∨ o + 2 < a) → s a = σ a) 7 ?_ ?_ N 0 _ hN ?_).imp (fun _ h => ⟨h.1, h.2⟩)
  · intro i v s hi ⟨hv, a0, a1, a2, a3, a4⟩
    subst hv
    refine Or.inr ⟨nI (i + 1), hset (hset (hset (hset (hset (hset s (o + 1) i (nI i)) (o + 2) (i * 5 + 0) (nI 3)) (o + 2) (i * 5 + 1) (nI 0)) (o + 2) (i * 5 + 2) (nI 1)) (o + 2) (i * 5 + 3) (nI (i % 6))) (o + 2) (i * 5 + 4) (nI 0), ⟨rfl, ?_, ?_, ?_, ?_, ?_⟩, fun k => ?_⟩
    · simp (disch := omega) only [hs_o, hs_k]; exact a0
    · simp (disch := omega) only [hs_o, hs_k]; exact a1
    · intro p hp
      simp (disch := omega) only [hs_o]
      by_cases hpi : p = i
      · subst hpi; rw [hs_eq]
      · rw [hs_k hpi]; exact a2 p (by omega)
    · intro j hj
      rcases (show j < i * 5 ∨ j = i * 5 ∨ j = i * 5 + 1 ∨ j = i * 5 + 2 ∨ j = i * 5 + 3 ∨ j = i * 5 + 4 by omega) with h | rfl | rfl | rfl | rfl | rfl
      · simp (disch := omega) only [hs_o, hs_k]; exact a3 j h
      · rw [hs_k (by omega), hs_k (by omega), hs_k (by omega), hs_k (by omega), ini0]; exact hs_eq
      · rw [hs_k (by omega), hs_k (by omega), hs_k (by omega), hs_eq, ini1]
      · rw [hs_k (by omega), hs_k (by omega), hs_eq, ini2]
      · rw [hs_k (by omega), hs_eq, ini3]
      · rw [hs_eq, ini4]
    · intro a ha
      simp (disch := omega) only [hs_o, hs_k]; exact a4 a ha
    · rw [if_neg (show ¬ (7 : Int32) ≤ nI i from nI_ge (a := i) (b := 7) hi (by omega)), rem6 hi]
      simp (disch := omega) only [fa_lit, nI_L, nI_G, nI_E, gi_in, nI_clamp, put_in, at_in, fact_in, setFact_in, bind_s, b2_s, bnd_e, hs_o, hs_eq, hs_k, nI_add, if_true, if_false]
  · intro v s ⟨hv, a0, a1, a2, a3, a4⟩
    subst hv
    exact ⟨s, ⟨⟨a0, a1, fun p hp => a2 p hp, fun j hj => a3 j (by omega)⟩, a4⟩, fun k => if_pos (by rfl)⟩
  · exact ⟨rfl, by simp (disch := omega) only [hs_o, hs_k]; exact hs_eq, hs_eq, fun p hp => absurd hp (Nat.not_lt_zero p), fun j hj => absurd hj (by omega), fun a ha => by simp (disch := omega) only [hs_o, hs_k]⟩
theorem begin_e {τ : Hp} {n N : Nat} (h1 : 1 ≤ n) (h2 : n ≤ 7) (hN : 7 < N) : ∃ τ', t_X7_begin N (nI n) τ = some τ' ∧ RM τ' (C0 n) ∧ (∀ a, 6 < a → τ' a = τ a) ∧ τ' 0 11 = nI 0 ∧ τ' 0 14 = nI 0 ∧ τ' 0 16 = τ 0 16 := by
  unfold t_X7_begin t_X7_begin_22
  rw [bnd_e, bnd_e, bnd_e, bnd_e]
  refine (li2 _ (fun i v s => v = nI i ∧ s 0 0 = nI n ∧ s 0 7 = nI 0 ∧ s 0 11 = nI 0 ∧ s 0 14 = nI 0 ∧ s 0 16 = τ 0 16 ∧ (∀ e, e < i → s 1 e = nI 3 ∧ s 2 e = nI 0 ∧ s 3 e = nI 1 ∧ s 4 e = nI (e % 6) ∧ s 5 e = nI 0 ∧ s 6 e = nI e) ∧ ∀ a, 6 < a → s a = τ a) (fun s => RM s (C0 n) ∧ (∀ a, 6 < a → s a = τ a) ∧ s 0 11 = nI 0 ∧ s 0 14 = nI 0 ∧ s 0 16 = τ 0 16) 7 ?_ ?_ N 0 _ hN ?_).imp (fun _ h => ⟨h.1, h.2⟩)
  · intro i v s hi ⟨hv, a0, a1, a2, a3, a4, a5, a6⟩
    subst hv
    refine Or.inr ⟨nI (i + 1), hset (hset (hset (hset (hset (hset s 1 i (nI 3)) 2 i (nI 0)) 3 i (nI 1)) 4 i (nI (i % 6))) 5 i (nI 0)) 6 i (nI i), ⟨rfl, ?_, ?_, ?_, ?_, ?_, ?_, ?_⟩, fun k => ?_⟩
    · simp (disch := omega) only [hs_o, hs_k]; exact a0
    · simp (disch := omega) only [hs_o, hs_k]; exact a1
    · simp (disch := omega) only [hs_o, hs_k]; exact a2
    · simp (disch := omega) only [hs_o, hs_k]; exact a3
    · simp (disch := omega) only [hs_o, hs_k]; exact a4
    · intro e he
      by_cases hei : e = i
      · subst hei; simp (disch := omega) only [hs_o, hs_eq, and_self]
      · simp (disch := omega) only [hs_o, hs_k]; exact a5 e (by omega)
    · intro a ha; simp (disch := omega) only [hs_o, hs_k]; exact a6 a ha
    · rw [if_neg (show ¬ (7 : Int32) ≤ nI i from nI_ge (a := i) (b := 7) hi (by omega)), rem6 hi]
      simp (disch := omega) only [fa_lit, nI_L, nI_G, nI_E, gi_in, nI_clamp, put_in, at_in, fact_in, setFact_in, bind_s, b2_s, bnd_e, hs_o, hs_eq, hs_k, nI_add, if_true, if_false]
  · intro v s ⟨hv, a0, a1, a2, a3, a4, a5, a6⟩
    subst hv
    refine ⟨s, ⟨⟨a0, a1, fun p hp => (a5 p hp).2.2.2.2.2, fun e he => ?_⟩, a6, a2, a3, a4⟩, fun k => if_pos (by rfl)⟩
    have k : ∀ j, C0 n 2 j = ini j := fun _ => rfl
    obtain ⟨b1, b2, b3, b4, b5, b6⟩ := a5 e he
    rw [k, k, k, k, k, ini0, ini1, ini2, ini3, ini4]
    exact ⟨b1, b2, b3, b4, b5⟩
  · refine ⟨rfl, by simp (disch := omega) only [hs_o, hs_k]; exact hs_eq, by simp (disch := omega) only [hs_o, hs_k]; exact hs_eq, by simp (disch := omega) only [hs_o, hs_k]; exact hs_eq, hs_eq, by simp (disch := omega) only [hs_o, hs_k], fun e he => absurd he (Nat.not_lt_zero e), fun a ha => by simp (disch := omega) only [hs_o, hs_k]⟩
theorem k_eggs {N : Nat} (hN : 7 < N) {σ τ : Hp} (hR : Rl σ τ) (p0 : Int32) : ∃ r : Int32, ∃ σ1 : Hp, ∃ τ1 : Hp, t_X6_eggs N p0 σ = some (r, σ1) ∧ t_X7_eggs N p0 τ = some (r, τ1) ∧ Rl σ1 τ1 := by
  obtain ⟨C, H, pn, P, h1, h2, h3, h4, h5, h6, h7, h8, h9⟩ := id hR
  unfold t_X6_eggs t_X7_eggs
  rw [isWithin_e, in_l (a := 1) (b := 7) 1 7 rfl rfl, bind_s, bind_s]
  by_cases hq : p0 < 1 ∨ 7 < p0
  · rw [ite_0 hq, ite_0 hq]; exact ⟨_, _, _, rfl, rfl, hR⟩
  rw [ite_1 hq, ite_1 hq]
  obtain ⟨n, hn, rfl⟩ := rng_c (p := p0) (m := 7) (by decide) (fun h => h.elim (fun h => hq (Or.inl (by rw [Int32.lt_iff_toInt_lt] at *; have : (0 : Int32).toInt = 0 := rfl; have : (1 : Int32).toInt = 1 := rfl; omega))) (fun h => hq (Or.inr h)))
  have hn1 : 1 ≤ n := by
    rcases Nat.eq_zero_or_pos n with rfl | h
    · exact absurd (Or.inl (by decide)) hq
    · exact h
  obtain ⟨σ', e1, e2, e3⟩ := startWith_e (σ := σ) (o := 2) hn1 hn hN
  obtain ⟨τ', f1, f2, f3, f4, f5, f6⟩ := begin_e (τ := τ) hn1 hn hN
  rw [e1, f1, h1.1, h2.1]
  refine ⟨nI (C 0 0), hset (hset σ' 5 0 0) 5 1 0, τ', rfl, rfl, C0 n, cset (cset H 0 0 0) 0 1 0, pn, P, ?_, f2, BC_C0 hn1 hn, ?_, ?_, ?_, ?_, ?_, ?_⟩
  · exact RC_f e2 (fun a _ _ => by simp (disch := omega) only [hs_o, hs_k])
  · have h4' := RH_f h4 (σ' := σ') (fun a _ _ => e3 a (by omega))
    exact ⟨by rw [hs_k (by decide), hs_eq]; rfl, by rw [hs_eq]; rfl, fun i hi => by simp (disch := omega) only [hs_o, hs_k]; exact h4'.2.2.1 i hi, fun i hi => by simp (disch := omega) only [hs_o, hs_k]; exact h4'.2.2.2 i hi⟩
  · exact ⟨f4, f5, fun i hi => by rw [f3 7 (by omega), f3 8 (by omega), f3 9 (by omega)]; exact h5.2.2.1 i hi, fun i hi => by rw [f3 10 (by omega), f3 11 (by omega)]; exact h5.2.2.2 i hi⟩
  · exact ⟨by show 0 ≤ 12; omega, by show 0 ≤ 7; omega, h6.2.2.1, h6.2.2.2.1, fun i hi => absurd hi (Nat.not_lt_zero i), fun i hi => absurd hi (Nat.not_lt_zero i)⟩
  · exact RP_fr h7 (by simp (disch := omega) only [hs_o, hs_k]; exact e3 31 (by omega)) (by simp (disch := omega) only [hs_o, hs_k]; exact e3 32 (by omega)) f6 (f3 12 (by omega))
  · exact RI_fr h8 (fun a _ _ => by simp (disch := omega) only [hs_o, hs_k]; exact e3 a (by omega)) (f3 25 (by omega)) (f3 26 (by omega))
  · exact RI_fr h9 (fun a _ _ => by simp (disch := omega) only [hs_o, hs_k]; exact e3 a (by omega)) (f3 25 (by omega)) (f3 26 (by omega))
theorem k_first {N : Nat} (hN : 7 < N) : ∃ σ0 τ0 : Hp, t_X0_startWith N 2 4 (fun _ _ => 0) = some σ0 ∧ t_X7_begin N 4 (fun _ _ => 0) = some τ0 ∧ Rl σ0 τ0 := by
  obtain ⟨σ', e1, e2, e3⟩ := startWith_e (σ := fun _ _ => 0) (o := 2) (n := 4) (by omega) (by omega) hN
  obtain ⟨τ', f1, f2, f3, f4, f5, f6⟩ := begin_e (τ := fun _ _ => 0) (n := 4) (by omega) (by omega) hN
  have z : ∀ a i, (a < 2 ∨ 4 < a) → σ' a i = nI 0 := fun a i h => by rw [e3 a (by omega)]; rfl
  have w : ∀ a i, 6 < a → τ' a i = nI 0 := fun a i h => by rw [f3 a h]; rfl
  refine ⟨σ', τ', e1, f1, C0 4, fun _ _ => 0, 0, fun _ => 0, e2, f2, BC_C0 (by omega) (by omega), ?_, ?_, ?_, ?_, ?_, ?_⟩
  · exact ⟨z _ _ (by omega), z _ _ (by omega), fun i _ => ⟨z _ _ (by omega), z _ _ (by omega), z _ _ (by omega)⟩, fun i _ => ⟨z _ _ (by omega), z _ _ (by omega)⟩⟩
  · exact ⟨f4, f5, fun i _ => ⟨w _ _ (by omega), w _ _ (by omega), w _ _ (by omega)⟩, fun i _ => ⟨w _ _ (by omega), w _ _ (by omega)⟩⟩
  · exact ⟨Nat.zero_le _, Nat.zero_le _, fun i _ => ⟨Nat.zero_le _, (show 0 < 7 by omega), (show 0 < 7 by omega)⟩, fun i _ => ⟨(show 0 < 7 by omega), Nat.zero_le _⟩, fun i hi => absurd hi (Nat.not_lt_zero i), fun i hi => absurd hi (Nat.not_lt_zero i)⟩
  · exact ⟨z _ _ (by omega), f6, by omega, fun i _ => ⟨z _ _ (by omega), w _ _ (by omega), Nat.zero_le _⟩⟩
  · exact ⟨(z _ _ (by omega)).trans (w _ _ (by omega)).symm, Or.inl (z _ _ (by omega))⟩
  · exact ⟨(z _ _ (by omega)).trans (w _ _ (by omega)).symm, Or.inl (z _ _ (by omega))⟩
