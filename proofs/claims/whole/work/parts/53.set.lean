theorem st_bit : ∀ st, st < 64 → ∀ h, h < 6 → (((nI st) >>> (nI h &&& 31)) &&& 1) = (if st / 2 ^ h % 2 = 1 then nI 1 else nI 0) := by decide +kernel
theorem st_on : ∀ st, st < 64 → ∀ h, h < 6 → (nI st ||| ((1 : Int32) <<< (nI h &&& 31)) = nI (st ||| 2 ^ h) ∧ (st ||| 2 ^ h) < 64) ∧ (if st / 2 ^ h % 2 = 1 then nI st else nI st ^^^ ((1 : Int32) <<< (nI h &&& 31))) = nI (st ||| 2 ^ h) := by decide +kernel
theorem st_off : ∀ st, st < 64 → ∀ h, h < 6 → (nI st &&& (((1 : Int32) <<< (nI h &&& 31)) ^^^ (-1)) = nI (st &&& (63 - 2 ^ h)) ∧ (st &&& (63 - 2 ^ h)) < 64) ∧ (if st / 2 ^ h % 2 = 1 then nI st ^^^ ((1 : Int32) <<< (nI h &&& 31)) else nI st) = nI (st &&& (63 - 2 ^ h)) := by decide +kernel
theorem RC_st {σ : Hp} {o : Nat} {C : Cp} (h : RC σ o C) (v : Nat) : RC (hset σ o 1 (nI v)) o (cset C 0 1 v) := by
  obtain ⟨a, b, c, d⟩ := h
  refine ⟨by rw [hs_k (by decide)]; exact a, by rw [hs_eq]; rfl, fun p hp => by rw [hs_o (by omega)]; exact c p hp, fun j hj => by rw [hs_o (by omega)]; exact d j hj⟩
theorem RM_st {τ : Hp} {C : Cp} (h : RM τ C) (v : Nat) : RM (hset τ 0 7 (nI v)) (cset C 0 1 v) := by
  obtain ⟨a, b, c, d⟩ := h
  refine ⟨by rw [hs_k (by decide)]; exact a, by rw [hs_eq]; rfl, fun p hp => by rw [hs_o (by omega)]; exact c p hp, fun e he => by simp (disch := omega) only [hs_o]; exact d e he⟩
theorem BC_st {C : Cp} (h : BC C) {v : Nat} (hv : v < 64) : BC (cset C 0 1 v) := ⟨h.1, hv, h.2.2.1, h.2.2.2.1, h.2.2.2.2.1, h.2.2.2.2.2⟩
theorem hasBit_e (x p : Int32) : t_X6_hasBit x p = some (if ((x >>> (p &&& 31)) &&& 1) = 0 then 0 else 1) := by
  unfold t_X6_hasBit; split <;> rfl
theorem Rl_st {σ τ : Hp} {C H : Cp} {pn : Nat} {P : Nat → Nat} (h1 : RC σ 2 C) (h2 : RM τ C) (h3 : BC C) (h4 : RH σ 5 H) (h5 : RN τ H) (h6 : BH (C 0 0) H) (h7 : RP σ τ pn P) (h8 : RI σ τ 11 0) (h9 : RI σ τ 21 1) {v : Nat} (hv : v < 64) : Rl (hset σ 2 1 (nI v)) (hset τ 0 7 (nI v)) :=
  ⟨cset C 0 1 v, H, pn, P, RC_st h1 v, RM_st h2 v, BC_st h3 hv, RH_f h4 (fun a _ _ => by simp (disch := omega) only [hs_o, hs_k]), RN_f h5 (fun a _ _ => by simp (disch := omega) only [hs_o, hs_k]) (by simp (disch := omega) only [hs_o, hs_k]) (by simp (disch := omega) only [hs_o, hs_k]), h6, RP_fr h7 (by simp (disch := omega) only [hs_o, hs_k]) (by simp (disch := omega) only [hs_o, hs_k]) (by simp (disch := omega) only [hs_o, hs_k]) (by simp (disch := omega) only [hs_o, hs_k]), RI_fr h8 (fun a _ _ => by simp (disch := omega) only [hs_o, hs_k]) (by simp (disch := omega) only [hs_o, hs_k]) (by simp (disch := omega) only [hs_o, hs_k]), RI_fr h9 (fun a _ _ => by simp (disch := omega) only [hs_o, hs_k]) (by simp (disch := omega) only [hs_o, hs_k]) (by simp (disch := omega) only [hs_o, hs_k])⟩
theorem hset_self {σ : Hp} {o k : Nat} {v : Int32} (h : σ o k = v) : hset σ o k v = σ := by
  funext a
  by_cases ha : a = o
  · subst ha
    funext j
    by_cases hj : j = k
    · subst hj; rw [hs_eq, h]
    · rw [hs_k hj]
  · rw [hs_o ha]
theorem turnStove_e (o : Nat) (p : Int32) (σ : Hp) : t_X0_turnStove o p σ = some (hset σ o 1 (σ o 1 ^^^ (1 <<< (p &&& 31)))) := rfl
theorem k_stove {σ τ : Hp} (hR : Rl σ τ) (p0 p1 : Int32) (hp : p1 = 0 ∨ p1 = 1) : ∃ r : Int32, ∃ σ1 : Hp, ∃ τ1 : Hp, t_X6_stove p0 p1 σ = some (r, σ1) ∧ t_X7_stove p0 p1 τ = some (r, τ1) ∧ Rl σ1 τ1 := by
  obtain ⟨C, H, pn, P, h1, h2, h3, h4, h5, h6, h7, h8, h9⟩ := id hR
  unfold t_X6_stove t_X7_stove
  rw [isWithin_e, isHouse_e, bind_s, bind_s]
  by_cases hq : p0 < 0 ∨ 5 < p0
  · rw [ite_0 hq, ite_0 hq]; exact ⟨_, _, _, rfl, rfl, hR⟩
  rw [ite_1 hq, ite_1 hq]
  obtain ⟨h, hh, rfl⟩ := rng_c (p := p0) (m := 5) (by decide) hq
  obtain ⟨st, hst⟩ : ∃ st, st = C 0 1 := ⟨_, rfl⟩
  have q1 : σ 2 1 = nI st := by rw [hst]; exact h1.2.1
  have q2 : τ 0 7 = nI st := by rw [hst]; exact h2.2.1
  have hlt : st < 64 := by rw [hst]; exact h3.2.1
  have b0 := st_bit st hlt h (by omega)
  obtain ⟨⟨b1, b2⟩, b3⟩ := st_on st hlt h (by omega)
  obtain ⟨⟨b4, b5⟩, b6⟩ := st_off st hlt h (by omega)
  rw [hasBit_e, bind_s, q1, b0, q2]
  unfold t_X6_stove_40 t_X7_stove_35
  have n1 : ¬ nI 1 = (0 : Int32) := by decide
  have n0 : nI 0 = (0 : Int32) := rfl
  rcases hp with rfl | rfl
  · refine ⟨nI (st &&& (63 - 2 ^ h)), hset σ 2 1 (nI (st &&& (63 - 2 ^ h))), hset τ 0 7 (nI (st &&& (63 - 2 ^ h))), ?_, ?_, Rl_st h1 h2 h3 h4 h5 h6 h7 h8 h9 b5⟩
    · by_cases hb : st / 2 ^ h % 2 = 1
      · rw [if_pos hb] at b6 ⊢
        rw [if_neg n1, if_neg (show ¬ (1 : Int32) = 0 by decide), turnStove_e, bind_s, q1, b6, hs_eq]
      · rw [if_neg hb] at b6 ⊢
        rw [if_pos n0, if_pos rfl, ← b6, hset_self q1, q1]
    · rw [if_pos rfl, b4, bnd_e, hs_eq]
  · refine ⟨nI (st ||| 2 ^ h), hset σ 2 1 (nI (st ||| 2 ^ h)), hset τ 0 7 (nI (st ||| 2 ^ h)), ?_, ?_, Rl_st h1 h2 h3 h4 h5 h6 h7 h8 h9 b2⟩
    · by_cases hb : st / 2 ^ h % 2 = 1
      · rw [if_pos hb] at b3 ⊢
        rw [if_neg n1, if_pos rfl, ← b3, hset_self q1, q1]
      · rw [if_neg hb] at b3 ⊢
        rw [if_pos n0, if_neg (show ¬ (0 : Int32) = 1 by decide), turnStove_e, bind_s, q1, b3, hs_eq]
    · rw [if_neg (show ¬ (1 : Int32) = 0 by decide), b1, bnd_e, hs_eq]
theorem k_forget {σ τ : Hp} (hR : Rl σ τ) (p0 : Int32) : ∃ r : Int32, ∃ σ1 : Hp, ∃ τ1 : Hp, t_X6_forget p0 σ = some (r, σ1) ∧ t_X7_forget p0 τ = some (r, τ1) ∧ Rl σ1 τ1 := by
  obtain ⟨C, H, pn, P, h1, h2, h3, h4, h5, h6, h7, h8, h9⟩ := id hR
  unfold t_X6_forget t_X7_forget
  rw [isWithin_e, in_l (a := 0) (b := 1) 0 1 rfl rfl, bind_s, bind_s]
  by_cases hq : p0 < 0 ∨ 1 < p0
  · rw [ite_0 hq, ite_0 hq]; exact ⟨_, _, _, rfl, rfl, hR⟩
  rw [ite_1 hq, ite_1 hq]
  obtain ⟨w, hw, rfl⟩ := rng_c (p := p0) (m := 1) (by decide) hq
  unfold t_X6_forget_39 t_X7_forget_28 t_X7_forget_42
  rcases (show w = 0 ∨ w = 1 by omega) with rfl | rfl
  · refine ⟨nI (H 0 0), hset σ 5 0 0, hset (hset τ 0 11 0) 0 14 (nI (H 0 1)), ?_, ?_, C, cset H 0 0 0, pn, P, RC_f h1 (fun a _ _ => by simp (disch := omega) only [hs_o, hs_k]), RM_f h2 (fun a _ _ => by simp (disch := omega) only [hs_o, hs_k]) (by simp (disch := omega) only [hs_o, hs_k]) (by simp (disch := omega) only [hs_o, hs_k]), h3, ?_, ?_, ?_, RP_fr h7 (by simp (disch := omega) only [hs_o, hs_k]) (by simp (disch := omega) only [hs_o, hs_k]) (by simp (disch := omega) only [hs_o, hs_k]) (by simp (disch := omega) only [hs_o, hs_k]), RI_fr h8 (fun a _ _ => by simp (disch := omega) only [hs_o, hs_k]) (by simp (disch := omega) only [hs_o, hs_k]) (by simp (disch := omega) only [hs_o, hs_k]), RI_fr h9 (fun a _ _ => by simp (disch := omega) only [hs_o, hs_k]) (by simp (disch := omega) only [hs_o, hs_k]) (by simp (disch := omega) only [hs_o, hs_k])⟩
    · rw [h4.1]; rfl
    · rw [h5.1]
      show some (nI (H 0 0), hset (hset τ 0 11 0) 0 14 ((hset τ 0 11 0) 0 14)) = _
      rw [hs_k (by decide), h5.2.1]
    · refine ⟨by rw [hs_eq]; rfl, by rw [hs_k (by decide)]; exact h4.2.1, fun i hi => by simp (disch := omega) only [hs_o, hs_k]; exact h4.2.2.1 i hi, fun i hi => by simp (disch := omega) only [hs_o, hs_k]; exact h4.2.2.2 i hi⟩
    · refine ⟨by rw [hs_k (by decide), hs_eq]; rfl, by rw [hs_eq]; rfl, fun i hi => by simp (disch := omega) only [hs_o, hs_k]; exact h5.2.2.1 i hi, fun i hi => by simp (disch := omega) only [hs_o, hs_k]; exact h5.2.2.2 i hi⟩
    · exact ⟨by show 0 ≤ 12; omega, h6.2.1, h6.2.2.1, h6.2.2.2.1, fun i hi => absurd hi (Nat.not_lt_zero i), h6.2.2.2.2.2⟩
  · refine ⟨nI (H 0 1), hset σ 5 1 0, hset (hset τ 0 11 (nI (H 0 0))) 0 14 0, ?_, ?_, C, cset H 0 1 0, pn, P, RC_f h1 (fun a _ _ => by simp (disch := omega) only [hs_o, hs_k]), RM_f h2 (fun a _ _ => by simp (disch := omega) only [hs_o, hs_k]) (by simp (disch := omega) only [hs_o, hs_k]) (by simp (disch := omega) only [hs_o, hs_k]), h3, ?_, ?_, ?_, RP_fr h7 (by simp (disch := omega) only [hs_o, hs_k]) (by simp (disch := omega) only [hs_o, hs_k]) (by simp (disch := omega) only [hs_o, hs_k]) (by simp (disch := omega) only [hs_o, hs_k]), RI_fr h8 (fun a _ _ => by simp (disch := omega) only [hs_o, hs_k]) (by simp (disch := omega) only [hs_o, hs_k]) (by simp (disch := omega) only [hs_o, hs_k]), RI_fr h9 (fun a _ _ => by simp (disch := omega) only [hs_o, hs_k]) (by simp (disch := omega) only [hs_o, hs_k]) (by simp (disch := omega) only [hs_o, hs_k])⟩
    · rw [h4.2.1]; rfl
    · rw [h5.1, h5.2.1]; rfl
    · refine ⟨by rw [hs_k (by decide)]; exact h4.1, by rw [hs_eq]; rfl, fun i hi => by simp (disch := omega) only [hs_o, hs_k]; exact h4.2.2.1 i hi, fun i hi => by simp (disch := omega) only [hs_o, hs_k]; exact h4.2.2.2 i hi⟩
    · refine ⟨by rw [hs_k (by decide), hs_eq]; rfl, by rw [hs_eq]; rfl, fun i hi => by simp (disch := omega) only [hs_o, hs_k]; exact h5.2.2.1 i hi, fun i hi => by simp (disch := omega) only [hs_o, hs_k]; exact h5.2.2.2 i hi⟩
    · exact ⟨h6.1, by show 0 ≤ 7; omega, h6.2.2.1, h6.2.2.2.1, h6.2.2.2.2.1, fun i hi => absurd hi (Nat.not_lt_zero i)⟩
