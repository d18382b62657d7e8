/-! images: kept and brought back -/
def WR (τ : Hp) (b : Nat) (f : Nat → Int32) (m : Nat) : Hp := fun a j => if a = 25 ∧ b ≤ j ∧ j < b + m then f (j - b) else if a = 0 ∧ j = 40 then nI (b + m) else τ a j
theorem la_le {m : Nat} (h : m < 96) : la m ≤ 11 ∧ (la m = 0 → li m ≤ 14) := by
  rcases mcs h with h1 | ⟨e, k, he, hk, rfl⟩ | ⟨i, k, hi, hk, rfl⟩
  · unfold la li; rw [if_pos h1, if_pos h1]
    refine ⟨by omega, fun _ => ?_⟩
    split
    · omega
    · split
      · omega
      · split <;> omega
  · obtain ⟨h1, h2, h3⟩ := mid he hk
    rw [h1, h2]; split <;> omega
  · obtain ⟨h1, h2, h3⟩ := lst hi hk
    rw [h1, h2]; omega
theorem WR_at {τ : Hp} {b m a j : Nat} {f : Nat → Int32} (ha : a ≠ 25) (hj : ¬ (a = 0 ∧ j = 40)) : WR τ b f m a j = τ a j := by
  unfold WR; rw [if_neg (fun z => ha z.1), if_neg hj]
theorem WR_next {τ : Hp} {b m : Nat} {f : Nat → Int32} : hset (hset (WR τ b f m) 25 (b + m) (f m)) 0 40 (nI (b + (m + 1))) = WR τ b f (m + 1) := by
  funext a j
  rw [hs_ok, hs_ok]
  unfold WR
  by_cases h1 : a = 0 ∧ j = 40
  · rw [if_pos h1, if_neg (fun z => by omega), if_pos h1]
  · rw [if_neg h1, if_neg h1]
    by_cases h2 : a = 25 ∧ j = b + m
    · rw [if_pos h2, if_pos ⟨h2.1, by omega, by omega⟩, h2.2, show b + m - b = m by omega]
    · rw [if_neg h2]
      by_cases h3 : a = 25 ∧ b ≤ j ∧ j < b + m
      · rw [if_pos h3, if_pos ⟨h3.1, h3.2.1, by omega⟩]
      · rw [if_neg h3, if_neg h1, if_neg (fun z => h3 ⟨z.1, z.2.1, by
          have := z.2.2
          have h4 : ¬ j = b + m := fun w => h2 ⟨z.1, w⟩
          omega⟩)]
theorem write_e {τ : Hp} {N b : Nat} {f : Nat → Int32} (hN : 12 < N) (hb : b + 96 ≤ 240) (h40 : τ 0 40 = nI b) (h41 : τ 0 41 = nI 1) (hf : ∀ m, m < 96 → τ (la m) (li m) = f m) : t_X7_passAll N τ = some (WR τ b f 96) := by
  have e0 : WR τ b f 0 = τ := by
    funext a j
    unfold WR
    rw [if_neg (fun z => by omega)]
    by_cases h : a = 0 ∧ j = 40
    · rw [if_pos h, h.1, h.2, h40]; rfl
    · rw [if_neg h]
  have := passAll_e hN (WR τ b f) (fun m hm => by
    have hl := la_le hm
    have hv : WR τ b f m (la m) (li m) = f m := by rw [WR_at (by omega) (fun z => by have := hl.2 z.1; omega)]; exact hf m hm
    have s40 : WR τ b f m 0 40 = nI (b + m) := by unfold WR; rw [if_neg (fun z => by omega), if_pos ⟨rfl, rfl⟩]
    have s41 : WR τ b f m 0 41 = nI 1 := by rw [WR_at (by omega) (by omega)]; exact h41
    refine ⟨f m, WR τ b f (m + 1), ?_, ?_⟩
    · unfold t_X7_pass t_X7_pass_20
      rw [s41, if_neg (show ¬ nI 1 = (0 : Int32) by decide), s40, gi_in (by omega) (by omega), nI_clamp (by omega), bnd_e, bnd_e, hs_o (by decide), s40, nI_1, hv, show b + m + 1 = b + (m + 1) by omega, WR_next]
    · refine hset_self ?_
      rw [WR_at (by omega) (fun z => by have := hl.2 z.1; omega)]; exact hf m hm)
  rw [e0] at this; exact this
def RD (τ : Hp) (b : Nat) (f : Nat → Int32) : Nat → Hp
  | 0 => τ
  | m + 1 => hset (hset (RD τ b f m) 0 40 (nI (b + (m + 1)))) (la m) (li m) (f m)
theorem RD_fr {τ : Hp} {b : Nat} {f : Nat → Int32} : ∀ m, m ≤ 96 → (∀ a, 11 < a → RD τ b f m a = τ a) ∧ ∀ j, 14 < j → j ≠ 40 → RD τ b f m 0 j = τ 0 j
  | 0, _ => ⟨fun _ _ => rfl, fun _ _ _ => rfl⟩
  | m + 1, h => by
    have ih := RD_fr (τ := τ) (b := b) (f := f) m (by omega)
    have hl := la_le (m := m) (by omega)
    refine ⟨fun a ha => ?_, fun j hj h40 => ?_⟩
    · show hset (hset (RD τ b f m) 0 40 _) (la m) (li m) _ a = _
      rw [hs_o (by omega), hs_o (by omega)]; exact ih.1 a ha
    · show hset (hset (RD τ b f m) 0 40 _) (la m) (li m) _ 0 j = _
      rw [hs_ok, if_neg (fun z => by have := hl.2 z.1.symm; omega), hs_ok, if_neg (fun z => h40 z.2)]
      exact ih.2 j hj h40
theorem RD_16 {τ : Hp} {b : Nat} {f : Nat → Int32} {m : Nat} (h : m ≤ 96) : RD τ b f m 0 16 = τ 0 16 := (RD_fr m h).2 16 (by omega) (by omega)
theorem loc_ne : ∀ m, m < 96 → ∀ j, j < m → ¬ (la j = la m ∧ li j = li m) := by decide +kernel
theorem RD_val {τ : Hp} {b : Nat} {f : Nat → Int32} : ∀ m, m ≤ 96 → ∀ j, j < m → RD τ b f m (la j) (li j) = f j
  | 0, _, j, hj => absurd hj (Nat.not_lt_zero j)
  | m + 1, h, j, hj => by
    show hset (hset (RD τ b f m) 0 40 _) (la m) (li m) _ (la j) (li j) = _
    rcases (show j = m ∨ j < m by omega) with rfl | h2
    · exact hs_eq
    · have hl := la_le (m := j) (by omega)
      rw [hs_ok, if_neg (loc_ne m (by omega) j h2), hs_ok, if_neg (fun z => by have := hl.2 z.1; omega)]
      exact RD_val m (by omega) j h2
theorem read_e {τ : Hp} {N b : Nat} {f : Nat → Int32} (hN : 12 < N) (hb : b + 96 ≤ 240) (h40 : τ 0 40 = nI b) (h41 : τ 0 41 = nI 0) (hf : ∀ m, m < 96 → τ 25 (b + m) = f m) : t_X7_passAll N τ = some (RD τ b f 96) :=
  passAll_e hN (RD τ b f) (fun m hm => by
    have fr := RD_fr (τ := τ) (b := b) (f := f) m (by omega)
    have s40 : RD τ b f m 0 40 = nI (b + m) := by
      cases m with
      | zero => exact h40
      | succ m =>
        have hl := la_le (m := m) (by omega)
        show hset (hset (RD τ b f m) 0 40 _) (la m) (li m) _ 0 40 = _
        rw [hs_ok, if_neg (fun z => by have := hl.2 z.1.symm; omega), hs_eq]
    have s41 : RD τ b f m 0 41 = nI 0 := (fr.2 41 (by omega) (by omega)).trans h41
    have s25 : RD τ b f m 25 (b + m) = f m := by rw [fr.1 25 (by omega)]; exact hf m hm
    refine ⟨f m, hset (RD τ b f m) 0 40 (nI (b + (m + 1))), ?_, rfl⟩
    unfold t_X7_pass t_X7_pass_20
    rw [s41, if_pos (show nI 0 = (0 : Int32) from rfl), s40, gi_in (by omega) (by omega), gi_in (by omega) (by omega), nI_clamp (by omega), bnd_e, bnd_e, s25, hset_self (σ := RD τ b f m) s25, s40, nI_1]; rfl)
theorem RK_fr2 {τ τ' : Hp} {b : Nat} {C H : Cp} (r : RK τ b C H) (e : ∀ j, b ≤ j → j < b + 96 → τ' 25 j = τ 25 j) : RK τ' b C H :=
  RK_of (fun m hm => by rw [e _ (by omega) (by omega)]; exact RK_to r m hm)
theorem RI_fr2 {σ σ' τ τ' : Hp} {o k : Nat} (h : RI σ τ o k) (e : ∀ a, o ≤ a → a < o + 10 → σ' a = σ a) (e25 : ∀ j, 120 * k ≤ j → j < 120 * k + 96 → τ' 25 j = τ 25 j) (e26 : τ' 26 k = τ 26 k) : RI σ' τ' o k := by
  obtain ⟨h1, h2⟩ := h
  refine ⟨by rw [e o (by omega) (by omega), e26]; exact h1, ?_⟩
  rw [e o (by omega) (by omega)]
  rcases h2 with h2 | ⟨h2, C, H, a, b, c, d, f⟩
  · exact Or.inl h2
  · exact Or.inr ⟨h2, C, H, RC_fr a (e _ (by omega) (by omega)) (e _ (by omega) (by omega)) (e _ (by omega) (by omega)), RH_fr b (e _ (by omega) (by omega)) (e _ (by omega) (by omega)) (e _ (by omega) (by omega)) (e _ (by omega) (by omega)) (e _ (by omega) (by omega)) (e _ (by omega) (by omega)), c, d, RK_fr2 f e25⟩
theorem img_e {σ τ : Hp} {N w : Nat} (hN : 35 < N) (hR : Rl σ τ) (hw : w ≤ 1) (o : Nat) (ho : o = 11 + 10 * w) : ∃ r : Int32, ∃ σ1 : Hp, ∃ τ1 : Hp, t_X6_image_27 N o σ = some (r, σ1) ∧ (bnd (hset τ 0 40 (120 * nI w)) (fun σ2 : Hp => bnd (hset σ2 0 41 1) (fun σ3 : Hp => Option.bind (t_X7_passAll N σ3) (fun σ4 : Hp => gi (nI w) 2 (bnd (hset σ4 26 (nI w).toNatClampNeg (vp_nar .boolean 1)) (fun σ5 : Hp => some ((1 : Int32), σ5))))))) = some (r, τ1) ∧ Rl σ1 τ1 := by
  obtain ⟨C, H, pn, P, h1, h2, h3, h4, h5, h6, h7, h8, h9⟩ := id hR
  obtain ⟨σ', e1, e2, e3⟩ := sceneCopy_e (σ := σ) (N := N) (o := o) (o2 := 1) hN (by omega)
  have h2' : RM (hset (hset τ 0 40 (nI (120 * w))) 0 41 1) C := RM_f h2 (fun a _ _ => by simp (disch := omega) only [hs_o, hs_k]) (by simp (disch := omega) only [hs_o, hs_k]) (by simp (disch := omega) only [hs_o, hs_k])
  have h5' : RN (hset (hset τ 0 40 (nI (120 * w))) 0 41 1) H := RN_f h5 (fun a _ _ => by simp (disch := omega) only [hs_o, hs_k]) (by simp (disch := omega) only [hs_o, hs_k]) (by simp (disch := omega) only [hs_o, hs_k])
  have wr := write_e (N := N) (τ := hset (hset τ 0 40 (nI (120 * w))) 0 41 1) (b := 120 * w) (f := fun m => nI (fK C H m)) (by omega) (by omega) (by rw [hs_k (by decide), hs_eq]) hs_eq (RMN_to h2' h5')
  obtain ⟨t, ht⟩ : ∃ t, t = WR (hset (hset τ 0 40 (nI (120 * w))) 0 41 1) (120 * w) (fun m => nI (fK C H m)) 96 := ⟨_, rfl⟩
  have t25 : ∀ m, m < 96 → t 25 (120 * w + m) = nI (fK C H m) := fun m hm => by
    rw [ht]; unfold WR; rw [if_pos ⟨rfl, by omega, by omega⟩, show 120 * w + m - 120 * w = m by omega]
  have t25' : ∀ j, ¬ (120 * w ≤ j ∧ j < 120 * w + 96) → t 25 j = τ 25 j := fun j hj => by
    rw [ht]; unfold WR; rw [if_neg (fun z => hj z.2), if_neg (fun z => by omega)]; simp (disch := omega) only [hs_o, hs_k]
  have ta : ∀ a, a ≠ 0 → a ≠ 25 → t a = τ a := fun a h0 h25 => by
    funext j; rw [ht, WR_at h25 (fun z => h0 z.1)]; simp (disch := omega) only [hs_o, hs_k]
  have t0 : ∀ j, j ≠ 40 → j ≠ 41 → t 0 j = τ 0 j := fun j hj1 hj2 => by
    rw [ht, WR_at (by omega) (fun z => hj1 z.2)]; simp (disch := omega) only [hs_o, hs_k]
  rw [show (120 : Int32) = nI 120 from rfl, pk_mul, bnd_e, bnd_e, wr, bind_s, ← ht, gi_in (by omega) (by omega), nI_clamp (by omega), bnd_e]
  unfold t_X6_image_27
  rw [e1, bind_s, bnd_e]
  refine ⟨1, _, _, rfl, rfl, C, H, pn, P, ?_, ?_, h3, ?_, ?_, h6, ?_, ?_, ?_⟩
  · exact RC_f h1 (fun a _ _ => by rw [hs_o (by omega)]; exact e2 a (by omega))
  · exact RM_f h2 (fun a _ _ => by rw [hs_o (by omega)]; exact ta a (by omega) (by omega)) (by rw [hs_o (by omega)]; exact t0 0 (by omega) (by omega)) (by rw [hs_o (by omega)]; exact t0 7 (by omega) (by omega))
  · exact RH_f h4 (fun a _ _ => by rw [hs_o (by omega)]; exact e2 a (by omega))
  · exact RN_f h5 (fun a _ _ => by rw [hs_o (by omega)]; exact ta a (by omega) (by omega)) (by rw [hs_o (by omega)]; exact t0 11 (by omega) (by omega)) (by rw [hs_o (by omega)]; exact t0 14 (by omega) (by omega))
  · exact RP_fr h7 (by rw [hs_o (by omega)]; exact e2 31 (by omega)) (by rw [hs_o (by omega)]; exact e2 32 (by omega)) (by rw [hs_o (by omega)]; exact t0 16 (by omega) (by omega)) (by rw [hs_o (by omega)]; exact ta 12 (by omega) (by omega))
  all_goals (
    obtain ⟨c1, c2⟩ := e3 C H h1 h4
    rcases (show w = 0 ∨ w = 1 by omega) with rfl | rfl)
  · subst ho
    refine ⟨by rw [hs_eq, hs_eq]; rfl, Or.inr ⟨hs_eq, C, H, RC_f c1 (fun a _ _ => by simp (disch := omega) only [hs_o, hs_k]), RH_f c2 (fun a _ _ => by simp (disch := omega) only [hs_o, hs_k]), h3, h6, RK_of (fun m hm => by rw [hs_o (by omega)]; exact t25 m hm)⟩⟩
  · subst ho
    exact RI_fr2 h8 (fun a _ _ => by rw [hs_o (by omega)]; exact e2 a (by omega)) (fun j _ _ => by rw [hs_o (by omega)]; exact t25' j (by omega)) (by rw [hs_k (by omega)]; exact congrFun (ta 26 (by omega) (by omega)) _)
  · subst ho
    exact RI_fr2 h9 (fun a _ _ => by rw [hs_o (by omega)]; exact e2 a (by omega)) (fun j _ _ => by rw [hs_o (by omega)]; exact t25' j (by omega)) (by rw [hs_k (by omega)]; exact congrFun (ta 26 (by omega) (by omega)) _)
  · subst ho
    refine ⟨by rw [hs_eq, hs_eq]; rfl, Or.inr ⟨hs_eq, C, H, RC_f c1 (fun a _ _ => by simp (disch := omega) only [hs_o, hs_k]), RH_f c2 (fun a _ _ => by simp (disch := omega) only [hs_o, hs_k]), h3, h6, RK_of (fun m hm => by rw [hs_o (by omega)]; exact t25 m hm)⟩⟩
theorem k_image {N : Nat} (hN : 35 < N) {σ τ : Hp} (hR : Rl σ τ) (p0 : Int32) : ∃ r : Int32, ∃ σ1 : Hp, ∃ τ1 : Hp, t_X6_image N p0 σ = some (r, σ1) ∧ t_X7_image N p0 τ = some (r, τ1) ∧ Rl σ1 τ1 := by
  unfold t_X6_image t_X7_image
  rw [isWithin_e, in_l (a := 0) (b := 1) 0 1 rfl rfl, bind_s, bind_s]
  by_cases hq : p0 < 0 ∨ 1 < p0
  · rw [ite_0 hq, ite_0 hq]; exact ⟨_, _, _, rfl, rfl, hR⟩
  obtain ⟨w, hw, rfl⟩ := rng_c (p := p0) (m := 1) (by decide) hq
  rw [ite_1 hq, ite_1 hq]
  rcases (show w = 0 ∨ w = 1 by omega) with rfl | rfl
  · rw [if_pos (show nI 0 = (0 : Int32) from rfl)]
    exact img_e hN hR hw 11 rfl
  · rw [if_neg (show ¬ nI 1 = (0 : Int32) by decide)]
    exact img_e hN hR hw 21 rfl
theorem rst_e {σ τ : Hp} {N w : Nat} (hN : 35 < N) (hR : Rl σ τ) (hw : w ≤ 1) (o : Nat) (ho : o = 11 + 10 * w) (hI : RI σ τ o w) : ∃ r : Int32, ∃ σ1 : Hp, ∃ τ1 : Hp, t_X6_restore_27 N o σ = some (r, σ1) ∧ (gi (nI w) 2 (if (τ 26 (nI w).toNatClampNeg) = 0 then some ((-3 : Int32), τ) else bnd (hset τ 0 40 (120 * nI w)) (fun σ2 : Hp => bnd (hset σ2 0 41 0) (fun σ3 : Hp => Option.bind (t_X7_passAll N σ3) (fun σ4 : Hp => some ((1 : Int32), σ4)))))) = some (r, τ1) ∧ Rl σ1 τ1 := by
  obtain ⟨C, H, pn, P, h1, h2, h3, h4, h5, h6, h7, h8, h9⟩ := id hR
  obtain ⟨i1, i2⟩ := hI
  unfold t_X6_restore_27
  rw [gi_in (by omega) (by omega), nI_clamp (by omega), ← i1]
  rcases i2 with i2 | ⟨i2, C', H', a1, a2, a3, a4, a5⟩
  · rw [i2, if_pos (show nI 0 = (0 : Int32) from rfl), if_pos (show nI 0 = (0 : Int32) from rfl)]
    exact ⟨_, _, _, rfl, rfl, hR⟩
  obtain ⟨σ', e1, e2, e3⟩ := sceneCopy_e (σ := σ) (N := N) (o := 1) (o2 := o) hN (by omega)
  obtain ⟨c1, c2⟩ := e3 C' H' a1 a2
  have rd := read_e (N := N) (τ := hset (hset τ 0 40 (nI (120 * w))) 0 41 0) (b := 120 * w) (f := fun m => nI (fK C' H' m)) (by omega) (by omega) (by rw [hs_k (by decide), hs_eq]) hs_eq (fun m hm => by rw [hs_o (by decide), hs_o (by decide)]; exact RK_to a5 m hm)
  obtain ⟨t, ht⟩ : ∃ t, t = RD (hset (hset τ 0 40 (nI (120 * w))) 0 41 0) (120 * w) (fun m => nI (fK C' H' m)) 96 := ⟨_, rfl⟩
  have ta : ∀ a, 11 < a → t a = τ a := fun a h => by
    rw [ht, (RD_fr 96 (Nat.le_refl _)).1 a h]; simp (disch := omega) only [hs_o, hs_k]
  have t16 : t 0 16 = τ 0 16 := by rw [ht, RD_16 (Nat.le_refl _)]; simp (disch := omega) only [hs_o, hs_k]
  obtain ⟨m1, m2⟩ := RMN_of (τ := t) (C := C') (H := H') (fun m hm => by rw [ht]; exact RD_val 96 (Nat.le_refl _) m hm)
  rw [i2, if_neg (show ¬ nI 1 = (0 : Int32) by decide), if_neg (show ¬ nI 1 = (0 : Int32) by decide), show (120 : Int32) = nI 120 from rfl, pk_mul, bnd_e, bnd_e, rd, bind_s, ← ht, e1, bind_s]
  refine ⟨1, σ', t, rfl, rfl, C', H', pn, P, c1, m1, a3, c2, m2, a4, ?_, ?_, ?_⟩
  · exact RP_fr h7 (e2 31 (by omega)) (e2 32 (by omega)) t16 (ta 12 (by omega))
  · exact RI_fr h8 (fun a _ _ => e2 a (by omega)) (ta 25 (by omega)) (ta 26 (by omega))
  · exact RI_fr h9 (fun a _ _ => e2 a (by omega)) (ta 25 (by omega)) (ta 26 (by omega))
theorem k_restore {N : Nat} (hN : 35 < N) {σ τ : Hp} (hR : Rl σ τ) (p0 : Int32) : ∃ r : Int32, ∃ σ1 : Hp, ∃ τ1 : Hp, t_X6_restore N p0 σ = some (r, σ1) ∧ t_X7_restore N p0 τ = some (r, τ1) ∧ Rl σ1 τ1 := by
  obtain ⟨C, H, pn, P, h1, h2, h3, h4, h5, h6, h7, h8, h9⟩ := id hR
  unfold t_X6_restore t_X7_restore
  rw [isWithin_e, in_l (a := 0) (b := 1) 0 1 rfl rfl, bind_s, bind_s]
  by_cases hq : p0 < 0 ∨ 1 < p0
  · rw [ite_0 hq, ite_0 hq]; exact ⟨_, _, _, rfl, rfl, hR⟩
  obtain ⟨w, hw, rfl⟩ := rng_c (p := p0) (m := 1) (by decide) hq
  rw [ite_1 hq, ite_1 hq]
  rcases (show w = 0 ∨ w = 1 by omega) with rfl | rfl
  · rw [if_pos (show nI 0 = (0 : Int32) from rfl)]
    exact rst_e hN hR hw 11 rfl h8
  · rw [if_neg (show ¬ nI 1 = (0 : Int32) by decide)]
    exact rst_e hN hR hw 21 rfl h9
