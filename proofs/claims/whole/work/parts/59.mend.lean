/-! bits of sets of seven -/
theorem bit_e (k : Nat) : t_X6_bit (nI k) = some (1 <<< (nI k &&& 31)) := rfl
theorem or_bit : ∀ b, b < 128 → ∀ e, e < 7 → (nI b ||| ((1 : Int32) <<< (nI e &&& 31))) = nI (b ||| 2 ^ e) ∧ (b ||| 2 ^ e) < 128 := by decide +kernel
theorem or_z (b : Nat) : nI b ||| (0 : Int32) = nI b := by rw [show (0 : Int32) = nI 0 from rfl]; apply Int32.toBitVec_inj.mp; simp [show (nI 0).toBitVec = 0#32 from rfl]
def nxt (b : Nat) : Nat := b &&& (b - 1)
def itn : Nat → Nat → Nat
  | 0, b => b
  | k + 1, b => itn k (nxt b)
def pop7 (b : Nat) : Nat := b % 2 + b / 2 % 2 + b / 4 % 2 + b / 8 % 2 + b / 16 % 2 + b / 32 % 2 + b / 64 % 2
theorem bitCount_e : ∀ b, b < 128 → t_J6_bitCount_0f7a4 (nI b) = some (nI (pop7 b)) := by decide +kernel
theorem itn_ok : ∀ b, b < 128 → pop7 b ≤ 7 ∧ itn (pop7 b) b = 0 ∧ ∀ i, i < pop7 b → itn i b ≠ 0 ∧ itn i b < 128 ∧ itn (i + 1) b = nxt (itn i b) := by decide +kernel
theorem nxt_e : ∀ b, b < 128 → b ≠ 0 → nI b &&& (nI b - 1) = nI (nxt b) := by decide +kernel
theorem ones_e {N b : Nat} (hN : 7 < N) (hb : b < 128) : t_X7_ones N (nI b) = some (nI (pop7 b)) := by
  obtain ⟨h1, h2, h3⟩ := itn_ok b hb
  unfold t_X7_ones t_X7_ones_4
  refine lr2 _ (fun i => nI i) (fun i => nI (itn i b)) (pop7 b) _ ?_ ?_ N (by omega)
  · intro i hi k
    obtain ⟨a1, a2, a3⟩ := h3 i hi
    show (if nI (itn i b) = 0 then _ else _) = _
    rw [if_neg (show ¬ nI (itn i b) = (0 : Int32) from fun h => a1 ((nI_eq (by omega) (by omega)).mp (show nI (itn i b) = nI 0 from h))), bnd_e, bnd_e, nxt_e _ a2 a1, a3, nI_1]
  · intro k
    show (if nI (itn (pop7 b) b) = 0 then _ else _) = _
    rw [h2]; rfl
/-! what is eaten ahead of whole ones: from the last place on -/
def mdW (C : Cp) (n : Nat) : Nat → Bool
  | 0 => false
  | i + 1 => mdW C n i || C 2 (C 1 (n - 1 - i) * 5 + 4) == 0
def mdB (C : Cp) (n : Nat) : Nat → Nat
  | 0 => 0
  | i + 1 => if mdW C n i = true ∧ C 2 (C 1 (n - 1 - i) * 5 + 4) = 2 then mdB C n i ||| 2 ^ C 1 (n - 1 - i) else mdB C n i
def bI (b : Bool) : Int32 := if b = true then nI 1 else nI 0
theorem mdB_lt {C : Cp} (h : BC C) : ∀ i, i ≤ C 0 0 → mdB C (C 0 0) i < 128
  | 0, _ => by show 0 < 128; omega
  | i + 1, hi => by
    have h1 := mdB_lt h i (by omega)
    have hb := h.1
    have hp := h.2.2.2.2.1 (C 0 0 - 1 - i) (by omega)
    unfold mdB
    split
    · exact (or_bit _ h1 _ hp).2
    · exact h1
theorem eaten_e {σ : Hp} {o N : Nat} {C : Cp} (h : RC σ o C) (b : BC C) (hN : 7 < N) : t_X0_eatenAheadOfWhole N o σ = some (nI (mdB C (C 0 0) (C 0 0))) := by
  have hb := b.1
  have key : ∀ n, n = C 0 0 → t_X0_eatenAheadOfWhole_11 N o N (nI 0) (bI (mdW C n 0)) (nI (n - 0) + (-1)) σ = some (nI (mdB C n n)) := by
    intro n hn
    unfold t_X0_eatenAheadOfWhole_11
    refine lr4 _ (fun i => nI (mdB C n i)) (fun i => bI (mdW C n i)) (fun i => nI (n - i) + (-1)) (fun _ => σ) n _ ?_ ?_ N (by omega)
    · intro i hi k
      obtain ⟨e, he⟩ : ∃ e, e = C 1 (n - 1 - i) := ⟨_, rfl⟩
      have he7 : e < 7 := by rw [he]; exact b.2.2.2.2.1 _ (by omega)
      have hv : nI (n - i) + (-1) = nI (n - 1 - i) := by rw [show n - i = (n - 1 - i) + 1 by omega, nI_m1]
      have hd := h.2.2.2 (e * 5 + 4) (by omega)
      have hk := (b.2.2.2.2.2 e he7).2.2.2.2
      have hl := mdB_lt b i (by omega)
      rw [← hn] at hl
      have ho := or_bit _ hl e he7
      have hv2 : nI (n - 1 - i) + (-1) = nI (n - (i + 1)) + (-1) := by rw [show n - 1 - i = n - (i + 1) by omega]
      unfold t_X0_eatenAheadOfWhole_62
      rw [hv, if_neg (nI_pos (by omega)), at_in (by omega) (by omega), h.2.2.1 _ (by omega), ← he, bind_s, isWhole_in he7, bind_s, hd]
      have u1 : mdW C n (i + 1) = (mdW C n i || C 2 (e * 5 + 4) == 0) := by rw [he]; rfl
      have u2 : mdB C n (i + 1) = if mdW C n i = true ∧ C 2 (e * 5 + 4) = 2 then mdB C n i ||| 2 ^ e else mdB C n i := by rw [he]; rfl
      by_cases hz : C 2 (e * 5 + 4) = 0
      · rw [u1, u2, hz, if_pos rfl, if_neg (by decide), bnd_e, hv2, if_neg (fun h => by omega)]
        rw [show (mdW C n i || (0 : Nat) == 0) = true by simp]; rfl
      · rw [if_neg (show ¬ nI (C 2 (e * 5 + 4)) = nI 0 from fun h => hz ((nI_eq (by omega) (by omega)).mp h)), if_pos (show nI 0 = (0 : Int32) from rfl), u1, u2]
        rw [show (C 2 (e * 5 + 4) == 0) = false by simp [hz], Bool.or_false]
        cases hw : mdW C n i
        · rw [show bI false = 0 from rfl, if_pos rfl, bnd_e, hv2, if_neg (fun h => by simp at h)]
        · rw [show bI true = 1 from rfl, if_neg (by decide), show (4 : Int32) = nI 4 from rfl, fact_in he7 (by omega), bind_s, hd]
          by_cases h2 : C 2 (e * 5 + 4) = 2
          · rw [h2, if_pos (by rfl), bit_e, bind_s, bnd_e, bnd_e, ho.1, hv2, if_pos ⟨rfl, rfl⟩]
          · rw [if_neg (show ¬ nI (C 2 (e * 5 + 4)) = 2 from fun h => h2 ((nI_eq (by omega) (by omega)).mp (show nI (C 2 (e * 5 + 4)) = nI 2 from h))), bnd_e, hv2, if_neg (fun h => h2 h.2)]
    · intro k
      rw [Nat.sub_self]; rfl
  unfold t_X0_eatenAheadOfWhole
  rw [bnd_e, h.1]
  have e0 : nI (C 0 0) - 1 = nI (C 0 0 - 0) + (-1) := by
    rw [show C 0 0 - 0 = (C 0 0 - 1) + 1 by omega, nI_m1, show (1 : Int32) = nI 1 from rfl, pk_sub (by omega)]
  rw [e0]
  exact key _ rfl
theorem mend7_e {τ : Hp} {N w : Nat} {C : Cp} (h : RM τ C) (b : BC C) (hN : 7 < N) (hw : w ≤ 1) : t_X7_mend_25 N N (nI w) 0 0 (nI (C 0 0) - 1) τ = some (nI (if w = 0 then pop7 (mdB C (C 0 0) (C 0 0)) else mdB C (C 0 0) (C 0 0))) := by
  have hb := b.1
  have key : ∀ n, n = C 0 0 → t_X7_mend_25 N N (nI w) (nI 0) (bI (mdW C n 0)) (nI (n - 0) + (-1)) τ = some (nI (if w = 0 then pop7 (mdB C n n) else mdB C n n)) := by
    intro n hn
    unfold t_X7_mend_25
    refine lr5 _ (fun _ => nI w) (fun i => nI (mdB C n i)) (fun i => bI (mdW C n i)) (fun i => nI (n - i) + (-1)) (fun _ => τ) n _ ?_ ?_ N (by omega)
    · intro i hi k
      obtain ⟨e, he⟩ : ∃ e, e = C 1 (n - 1 - i) := ⟨_, rfl⟩
      have he7 : e < 7 := by rw [he]; exact b.2.2.2.2.1 _ (by omega)
      have hv : nI (n - i) + (-1) = nI (n - 1 - i) := by rw [show n - i = (n - 1 - i) + 1 by omega, nI_m1]
      have hd := (h.2.2.2 e he7).2.2.2.2
      have hk := (b.2.2.2.2.2 e he7).2.2.2.2
      have hl := mdB_lt b i (by omega)
      rw [← hn] at hl
      have ho := or_bit _ hl e he7
      have hv2 : nI (n - 1 - i) + (-1) = nI (n - (i + 1)) + (-1) := by rw [show n - 1 - i = n - (i + 1) by omega]
      have u1 : mdW C n (i + 1) = (mdW C n i || C 2 (e * 5 + 4) == 0) := by rw [he]; rfl
      have u2 : mdB C n (i + 1) = if mdW C n i = true ∧ C 2 (e * 5 + 4) = 2 then mdB C n i ||| 2 ^ e else mdB C n i := by rw [he]; rfl
      unfold t_X7_mend_62 t_X7_mend_63 t_X7_mend_79 t_X7_mend_84
      rw [hv, if_neg (nI_pos (by omega)), gi_in (by omega) (by omega), nI_clamp (by omega), h.2.2.1 _ (by omega), ← he, bnd_e, nI_clamp (by omega), hd, u1, u2]
      simp only [gi_in (k := e) (n := 7) he7 (by omega)]
      cases hw : mdW C n i
      · rw [show bI false = 0 from rfl, if_pos rfl, bnd_e, or_z, if_pos rfl, if_neg (show ¬ (false = true ∧ C 2 (e * 5 + 4) = 2) from fun h => by simp at h), Bool.false_or]
        by_cases hz : C 2 (e * 5 + 4) = 0
        · rw [hz, if_pos (show nI 0 = (0 : Int32) from rfl), bnd_e, hv2]; rfl
        · rw [if_neg (show ¬ nI (C 2 (e * 5 + 4)) = 0 from fun h => hz ((nI_eq (by omega) (by omega)).mp (show nI (C 2 (e * 5 + 4)) = nI 0 from h))), bnd_e, hv2, show (C 2 (e * 5 + 4) == 0) = false by simp [hz]]; rfl
      · rw [show bI true = 1 from rfl, if_neg (by decide), Bool.true_or]
        by_cases h2 : C 2 (e * 5 + 4) = 2
        · rw [h2, if_pos (show nI 2 = (2 : Int32) from rfl), bnd_e, ho.1, if_neg (by decide), bnd_e, hv2, if_pos ⟨rfl, rfl⟩]; rfl
        · rw [if_neg (show ¬ nI (C 2 (e * 5 + 4)) = 2 from fun h => h2 ((nI_eq (by omega) (by omega)).mp (show nI (C 2 (e * 5 + 4)) = nI 2 from h))), bnd_e, or_z, if_neg (by decide), bnd_e, hv2, if_neg (fun h => h2 h.2)]; rfl
    · intro k
      have hl := mdB_lt b n (by omega)
      show (if nI (n - n) + (-1) < 0 then _ else _) = _
      rw [Nat.sub_self, if_pos nI_neg1]
      rcases (show w = 0 ∨ w = 1 by omega) with rfl | rfl
      · rw [if_pos (show nI 0 = (0 : Int32) from rfl), ones_e hN (by rw [hn] at hl ⊢; exact hl), bind_s, if_pos rfl]
      · rw [if_neg (show ¬ nI 1 = (0 : Int32) by decide), if_neg (by omega)]
  have e0 : nI (C 0 0) - 1 = nI (C 0 0 - 0) + (-1) := by
    rw [show C 0 0 - 0 = (C 0 0 - 1) + 1 by omega, nI_m1, show (1 : Int32) = nI 1 from rfl, pk_sub (by omega)]
  rw [e0]
  exact key _ rfl
theorem k_mend {N : Nat} (hN : 7 < N) {σ τ : Hp} (hR : Rl σ τ) (p0 : Int32) : ∃ r : Int32, t_X6_mend N p0 σ = some r ∧ t_X7_mend N p0 τ = some r ∧ Rl σ τ := by
  obtain ⟨C, H, pn, P, h1, h2, h3, h4, h5, h6, h7, h8, h9⟩ := id hR
  unfold t_X6_mend t_X7_mend
  rw [isWithin_e, in_l (a := 0) (b := 1) 0 1 rfl rfl, bind_s, bind_s]
  by_cases hq : p0 < 0 ∨ 1 < p0
  · rw [ite_0 hq, ite_0 hq]; exact ⟨_, rfl, rfl, hR⟩
  obtain ⟨w, hw, rfl⟩ := rng_c (p := p0) (m := 1) (by decide) hq
  rw [ite_1 hq, ite_1 hq, eaten_e h1 h3 hN, bind_s, bnd_e, h2.1, mend7_e h2 h3 hN hw]
  have hl := mdB_lt h3 (C 0 0) (Nat.le_refl _)
  rcases (show w = 0 ∨ w = 1 by omega) with rfl | rfl
  · rw [if_pos (show nI 0 = (0 : Int32) from rfl), bitCount_e _ hl]; exact ⟨_, rfl, rfl, hR⟩
  · rw [if_neg (show ¬ nI 1 = (0 : Int32) by decide)]; exact ⟨_, rfl, rfl, hR⟩
