def lgH (C : Cp) (h : Nat) : Nat → Nat
  | 0 => 0
  | i + 1 => if C 2 (i * 5 + 3) = h ∧ C 2 (i * 5 + 4) = 0 then max (lgH C h i) (C 2 (i * 5) - C 2 (i * 5 + 1)) else lgH C h i
theorem lgH_le {C : Cp} (b : BC C) (h : Nat) : ∀ i, i ≤ 7 → lgH C h i ≤ 9
  | 0, _ => Nat.zero_le _
  | i + 1, hi => by
    have h1 := lgH_le b h i (by omega)
    have hb := (b.2.2.2.2.2 i (by omega)).1
    unfold lgH
    split <;> omega
theorem sub_lt {a b v : Nat} (ha : a ≤ 9) (hb : b ≤ 9) (hv : v ≤ 9) : (nI v < nI a - nI b) = (v < a - b) := by
  rw [Int32.lt_iff_toInt_lt, nI_toInt (by omega), pk_sub_toInt (by omega) (by omega)]
  apply propext; omega
theorem sub_mx {a b v : Nat} (ha : a ≤ 9) (hb : b ≤ 9) (hv : v ≤ 9) : (if nI v < nI a - nI b then nI a - nI b else nI v) = nI (max v (a - b)) := by
  rw [show (if nI v < nI a - nI b then nI a - nI b else nI v) = (if v < a - b then nI a - nI b else nI v) by simp only [sub_lt ha hb hv]]
  by_cases h : v < a - b
  · rw [if_pos h, pk_sub (by omega), Nat.max_eq_right (by omega)]
  · rw [if_neg h, Nat.max_eq_left (by omega)]
theorem hours_e {σ : Hp} {o N h : Nat} {C : Cp} (r : RC σ o C) (b : BC C) (hN : 7 < N) (hh : h < 6) : t_X0_hoursToHeat N o (nI h) σ = some (nI (lgH C h (C 0 0))) := by
  have hb := b.1
  unfold t_X0_hoursToHeat t_X0_hoursToHeat_4
  refine lr4 _ (fun _ => nI h) (fun i => nI (lgH C h i)) (fun i => nI i) (fun _ => σ) (C 0 0) _ ?_ ?_ N (by omega)
  · intro i hi k
    have hi7 : i < 7 := by omega
    have d3 := r.2.2.2 (i * 5 + 3) (by omega)
    have d4 := r.2.2.2 (i * 5 + 4) (by omega)
    have d0 := r.2.2.2 (i * 5 + 0) (by omega)
    have d1 := r.2.2.2 (i * 5 + 1) (by omega)
    obtain ⟨k0, k1, k2, k3, k4⟩ := b.2.2.2.2.2 i hi7
    have hl := lgH_le b h i (by omega)
    unfold t_X0_hoursToHeat_51
    rw [r.1, if_neg (nI_ge hi (by omega)), isWhole_in hi7, bind_s, d4]
    have u : lgH C h (i + 1) = if C 2 (i * 5 + 3) = h ∧ C 2 (i * 5 + 4) = 0 then max (lgH C h i) (C 2 (i * 5) - C 2 (i * 5 + 1)) else lgH C h i := rfl
    rw [u]
    by_cases hz : C 2 (i * 5 + 4) = 0
    · rw [hz, if_pos rfl, if_neg (by decide), show (3 : Int32) = nI 3 from rfl, fact_in hi7 (by omega), bind_s, d3]
      by_cases h3 : C 2 (i * 5 + 3) = h
      · rw [h3, if_pos rfl, show (0 : Int32) = nI 0 from rfl, fact_in hi7 (by omega), bind_s, show (1 : Int32) = nI 1 from rfl, fact_in hi7 (by omega), bind_s, d0, d1, bnd_e, bnd_e, if_pos (show h = h ∧ (0 : Nat) = 0 from ⟨rfl, rfl⟩), show i * 5 + 0 = i * 5 from rfl, sub_mx k0.2 k1 hl, nI_add]
      · rw [if_neg (fun e => h3 ((nI_eq (by omega) (by omega)).mp e)), bnd_e, if_neg (fun e => h3 e.1), nI_1]
    · rw [if_neg (show ¬ nI (C 2 (i * 5 + 4)) = nI 0 from fun e => hz ((nI_eq (by omega) (by omega)).mp e)), if_pos (show nI 0 = (0 : Int32) from rfl), bnd_e, if_neg (fun e => hz e.2), nI_1]
  · intro k
    show (if σ o 0 ≤ nI (C 0 0) then _ else _) = _
    rw [r.1, if_pos (nI_le (Nat.le_refl _) (by omega))]
def sumH (C : Cp) : Nat → Nat
  | 0 => 0
  | h + 1 => sumH C h + lgH C h (C 0 0)
def mxH (C : Cp) : Nat → Nat
  | 0 => 0
  | h + 1 => max (mxH C h) (lgH C h (C 0 0))
theorem sumH_le {C : Cp} (b : BC C) : ∀ h, sumH C h ≤ 9 * h
  | 0 => Nat.zero_le _
  | h + 1 => by
    have h1 := sumH_le b h
    have h2 := lgH_le b h (C 0 0) b.1.2
    show sumH C h + lgH C h (C 0 0) ≤ _
    omega
theorem mxH_le {C : Cp} (b : BC C) : ∀ h, mxH C h ≤ 9
  | 0 => Nat.zero_le _
  | h + 1 => by
    have h1 := mxH_le b h
    have h2 := lgH_le b h (C 0 0) b.1.2
    show max (mxH C h) (lgH C h (C 0 0)) ≤ _
    omega
theorem mx_e {a b : Nat} (ha : a < 2 ^ 31) (hb : b < 2 ^ 31) : (if nI a < nI b then nI b else nI a) = nI (max a b) := by
  rw [show (if nI a < nI b then nI b else nI a) = (if a < b then nI b else nI a) by simp only [nI_L ha hb]]
  by_cases h : a < b
  · rw [if_pos h, Nat.max_eq_right (by omega)]
  · rw [if_neg h, Nat.max_eq_left (by omega)]
theorem soonX_e {σ : Hp} {N c : Nat} {C : Cp} (r : RC σ 2 C) (b : BC C) (hN : 7 < N) (hc : 1 ≤ c) (hc6 : c ≤ 6) : t_X6_soonest_20 N N (nI c) 0 0 0 σ = some (nI (max (mxH C 6) ((sumH C 6 + c - 1) / c))) := by
  unfold t_X6_soonest_20
  refine lr5 _ (fun _ => nI c) (fun h => nI (mxH C h)) (fun h => nI (sumH C h)) (fun h => nI h) (fun _ => σ) 6 _ ?_ ?_ N (by omega)
  · intro h hh k
    have l1 := mxH_le b h
    have l2 := lgH_le b h (C 0 0) b.1.2
    show (if (6 : Int32) ≤ nI h then _ else _) = _
    rw [if_neg (show ¬ (6 : Int32) ≤ nI h from nI_ge (a := h) (b := 6) hh (by omega)), hours_e r b hN hh, bind_s, bnd_e, bnd_e, bnd_e, mx_e (by omega) (by omega), nI_add, nI_1]; rfl
  · intro k
    have l1 := mxH_le b 6
    have l2 := sumH_le b 6
    show (if (6 : Int32) ≤ nI 6 then dz (nI c) _ else _) = _
    have hq : (sumH C 6 + c - 1) / c ≤ 100 := by
      have : (sumH C 6 + c - 1) / c ≤ sumH C 6 + c - 1 := Nat.div_le_self _ _
      omega
    rw [if_pos (by decide), nI_add, show (1 : Int32) = nI 1 from rfl, pk_sub (by omega), pk_div (by omega) (by omega) (by omega), mx_e (by omega) (by omega)]
    exact if_neg (nI_ne0 hc (by omega))
theorem le_mx {a b : Nat} (ha : a < 2 ^ 31) (hb : b < 2 ^ 31) {α : Type} {f : Int32 → α} : (if nI b ≤ nI a then f (nI a) else f (nI b)) = f (nI (max a b)) := by
  by_cases h : b ≤ a
  · rw [if_pos (nI_le h (by omega)), Nat.max_eq_left h]
  · rw [if_neg (nI_ge (by omega) (by omega)), Nat.max_eq_right (by omega)]
theorem soonM_e {τ : Hp} {N c : Nat} {C : Cp} (r : RM τ C) (b : BC C) (hN : 7 < N) (hc : 1 ≤ c) (hc6 : c ≤ 6) : t_X7_soonest_22 N N (nI c) 0 0 0 τ = some (nI (max (mxH C 6) ((sumH C 6 + c - 1) / c))) := by
  have hb := b.1
  unfold t_X7_soonest_22
  refine lr5 _ (fun _ => nI c) (fun h => nI (mxH C h)) (fun h => nI (sumH C h)) (fun h => nI h) (fun _ => τ) 6 _ ?_ ?_ N (by omega)
  · intro h hh k
    have l1 := mxH_le b h
    have l2 := lgH_le b h (C 0 0) b.1.2
    show (if (6 : Int32) ≤ nI h then _ else _) = _
    rw [if_neg (show ¬ (6 : Int32) ≤ nI h from nI_ge (a := h) (b := 6) hh (by omega))]
    unfold t_X7_soonest_35
    refine lr7 _ (fun _ => nI c) (fun _ => nI (mxH C h)) (fun _ => nI (sumH C h)) (fun _ => nI h) (fun i => nI (lgH C h i)) (fun i => nI i) (fun _ => τ) (C 0 0) _ ?_ ?_ N (by omega)
    · intro i hi k2
      have hi7 : i < 7 := by omega
      obtain ⟨d0, d1, d2, d3, d4⟩ := r.2.2.2 i hi7
      obtain ⟨k0, k1, k2', k3, k4⟩ := b.2.2.2.2.2 i hi7
      have hl := lgH_le b h i (by omega)
      have u : lgH C h (i + 1) = if C 2 (i * 5 + 3) = h ∧ C 2 (i * 5 + 4) = 0 then max (lgH C h i) (C 2 (i * 5) - C 2 (i * 5 + 1)) else lgH C h i := rfl
      unfold t_X7_soonest_84 t_X7_soonest_85 t_X7_soonest_101
      rw [r.1, if_neg (nI_ge hi (by omega)), gi_in hi7 (by omega), gi_in hi7 (by omega), gi_in hi7 (by omega), gi_in hi7 (by omega), nI_clamp (by omega), d0, d1, d3, d4, u]
      have z : (if (0 : Int32) ≤ nI (lgH C h i) then bnd (nI i + 1) fun x2 => k2 (nI c) (nI (mxH C h)) (nI (sumH C h)) (nI h) (nI (lgH C h i)) x2 τ else bnd (nI i + 1) fun x2 => k2 (nI c) (nI (mxH C h)) (nI (sumH C h)) (nI h) 0 x2 τ) = k2 (nI c) (nI (mxH C h)) (nI (sumH C h)) (nI h) (nI (lgH C h i)) (nI (i + 1)) τ := by
        rw [if_pos (nI_pos' (by omega)), bnd_e, nI_1]
      rw [z]
      by_cases h3 : C 2 (i * 5 + 3) = h
      · rw [h3, if_pos rfl]
        by_cases hz : C 2 (i * 5 + 4) = 0
        · rw [hz, if_pos (show nI 0 = (0 : Int32) from rfl), if_pos (show h = h ∧ (0 : Nat) = 0 from ⟨rfl, rfl⟩)]
          have e1 := sub_lt k0.2 k1 hl
          by_cases hlt : lgH C h i < C 2 (i * 5) - C 2 (i * 5 + 1)
          · have e2 : ¬ (nI (C 2 (i * 5)) - nI (C 2 (i * 5 + 1)) ≤ nI (lgH C h i)) := fun q => by
              have q2 : nI (lgH C h i) < nI (C 2 (i * 5)) - nI (C 2 (i * 5 + 1)) := by rw [e1]; exact hlt
              rw [Int32.le_iff_toInt_le] at q; rw [Int32.lt_iff_toInt_lt] at q2; omega
            rw [if_neg e2, bnd_e, Nat.max_eq_right (by omega), pk_sub (by omega), nI_1]
          · have e2 : nI (C 2 (i * 5)) - nI (C 2 (i * 5 + 1)) ≤ nI (lgH C h i) := by
              have q2 : ¬ nI (lgH C h i) < nI (C 2 (i * 5)) - nI (C 2 (i * 5 + 1)) := by rw [e1]; exact hlt
              rw [Int32.le_iff_toInt_le]; rw [Int32.lt_iff_toInt_lt] at q2; omega
            rw [if_pos e2, bnd_e, Nat.max_eq_left (by omega), nI_1]
        · rw [if_neg (show ¬ nI (C 2 (i * 5 + 4)) = 0 from fun e => hz ((nI_eq (by omega) (by omega)).mp (show nI (C 2 (i * 5 + 4)) = nI 0 from e))), if_neg (fun e => hz e.2)]
      · rw [if_neg (fun e => h3 ((nI_eq (by omega) (by omega)).mp e)), if_neg (fun e => h3 e.1)]
    · intro k2
      show (if τ 0 0 ≤ nI (C 0 0) then _ else _) = _
      unfold t_X7_soonest_126
      rw [r.1, if_pos (nI_le (Nat.le_refl _) (by omega)), bnd_e, nI_add]
      simp only [bnd_e]
      rw [le_mx (f := fun v => k (nI c) v (nI (sumH C h + lgH C h (C 0 0))) (nI h + 1) τ) (by omega) (by omega), nI_1]; rfl
  · intro k
    have l1 := mxH_le b 6
    have l2 := sumH_le b 6
    show (if (6 : Int32) ≤ nI 6 then dz (nI c) _ else _) = _
    have hq : (sumH C 6 + c - 1) / c ≤ 100 := by
      have : (sumH C 6 + c - 1) / c ≤ sumH C 6 + c - 1 := Nat.div_le_self _ _
      omega
    rw [if_pos (by decide), nI_add, show (1 : Int32) = nI 1 from rfl, pk_sub (by omega), pk_div (by omega) (by omega) (by omega), bnd_e, le_mx (f := fun v => some v) (by omega) (by omega)]
    exact if_neg (nI_ne0 hc (by omega))
theorem k_soonest {N : Nat} (hN : 7 < N) {σ τ : Hp} (hR : Rl σ τ) (p0 : Int32) : ∃ r : Int32, t_X6_soonest N p0 σ = some r ∧ t_X7_soonest N p0 τ = some r ∧ Rl σ τ := by
  obtain ⟨C, H, pn, P, h1, h2, h3, h4, h5, h6, h7, h8, h9⟩ := id hR
  unfold t_X6_soonest t_X7_soonest
  rw [isWithin_e, in_l (a := 1) (b := 6) 1 6 rfl rfl, bind_s, bind_s]
  by_cases hq : p0 < 1 ∨ 6 < p0
  · rw [ite_0 hq, ite_0 hq]; exact ⟨_, rfl, rfl, hR⟩
  obtain ⟨c, hc, rfl⟩ := rng_c (p := p0) (m := 6) (by decide) (fun h => h.elim (fun h => hq (Or.inl (by rw [Int32.lt_iff_toInt_lt] at *; have : (0 : Int32).toInt = 0 := rfl; have : (1 : Int32).toInt = 1 := rfl; omega))) (fun h => hq (Or.inr h)))
  have hc1 : 1 ≤ c := by
    rcases Nat.eq_zero_or_pos c with rfl | h
    · exact absurd (Or.inl (by decide)) hq
    · exact h
  rw [ite_1 hq, ite_1 hq, soonX_e h1 h3 hN hc1 hc, soonM_e h2 h3 hN hc1 hc]
  exact ⟨_, rfl, rfl, hR⟩
