/-! the order laid, what is kept, what is put back -/
def MW (τ τ' : Hp) : Prop := (∀ a, (a = 1 ∨ a = 3 ∨ (6 ≤ a ∧ a ≤ 12) ∨ a = 25 ∨ a = 26) → τ' a = τ a) ∧ (∀ i, i < 7 → τ' 2 i = τ 2 i ∧ τ' 4 i = τ 4 i ∧ τ' 5 i = τ 5 i) ∧ τ' 0 0 = τ 0 0 ∧ τ' 0 7 = τ 0 7 ∧ τ' 0 11 = τ 0 11 ∧ τ' 0 14 = τ 0 14 ∧ τ' 0 16 = τ 0 16
def MK (τ τ' : Hp) : Prop := (∀ a, (a = 1 ∨ a = 3 ∨ (6 ≤ a ∧ a ≤ 12) ∨ a = 25 ∨ a = 26) → τ' a = τ a) ∧ (∀ i, i < 7 → τ' 18 i = τ 2 i ∧ τ' 18 (7 + i) = τ 4 i ∧ τ' 18 (14 + i) = τ 5 i) ∧ τ' 18 21 = τ 0 7 ∧ τ' 0 0 = τ 0 0 ∧ τ' 0 11 = τ 0 11 ∧ τ' 0 14 = τ 0 14 ∧ τ' 0 16 = τ 0 16
theorem MW_RM {τ τ' : Hp} {C : Cp} (h : MW τ τ') (r : RM τ C) : RM τ' C := by
  obtain ⟨m1, m2, m3, m4, m5, m6, m7⟩ := h
  refine ⟨m3.trans r.1, m4.trans r.2.1, fun p hp => by rw [m1 6 (by omega)]; exact r.2.2.1 p hp, fun e he => ?_⟩
  obtain ⟨d0, d1, d2, d3, d4⟩ := r.2.2.2 e he
  obtain ⟨q1, q2, q3⟩ := m2 e he
  exact ⟨by rw [m1 1 (by omega)]; exact d0, q1.trans d1, by rw [m1 3 (by omega)]; exact d2, q2.trans d3, q3.trans d4⟩
theorem Rl_w {σ σ' τ τ' : Hp} (h : Rl σ τ) (hx : XF σ σ') (hm : MW τ τ') : Rl σ' τ' := by
  obtain ⟨C, H, pn, P, h1, h2, h3, h4, h5, h6, h7, h8, h9⟩ := h
  obtain ⟨m1, m2, m3, m4, m5, m6, m7⟩ := id hm
  exact ⟨C, H, pn, P, RC_f h1 (fun a _ _ => hx a (by omega)), MW_RM hm h2, h3, RH_f h4 (fun a _ _ => hx a (by omega)), RN_f h5 (fun a _ _ => m1 a (by omega)) m5 m6, h6, RP_fr h7 (hx _ (by omega)) (hx _ (by omega)) m7 (m1 12 (by omega)), RI_fr h8 (fun a _ _ => hx a (by omega)) (m1 25 (by omega)) (m1 26 (by omega)), RI_fr h9 (fun a _ _ => hx a (by omega)) (m1 25 (by omega)) (m1 26 (by omega))⟩
theorem MK_fr {τ s s' : Hp} (h : MK τ s) (e : ∀ a, a ≠ 0 → a ≠ 2 → a ≠ 4 → a ≠ 5 → (a < 13 ∨ a = 18 ∨ 24 < a) → s' a = s a) (f0 : s' 0 0 = s 0 0) (f11 : s' 0 11 = s 0 11) (f14 : s' 0 14 = s 0 14) (f16 : s' 0 16 = s 0 16) : MK τ s' := by
  obtain ⟨m1, m2, m3, m4, m5, m6, m7⟩ := h
  refine ⟨fun a ha => (e a (by omega) (by omega) (by omega) (by omega) (by omega)).trans (m1 a ha), fun i hi => ?_, ?_, f0.trans m4, f11.trans m5, f14.trans m6, f16.trans m7⟩
  · rw [e 18 (by omega) (by omega) (by omega) (by omega) (by omega)]; exact m2 i hi
  · rw [e 18 (by omega) (by omega) (by omega) (by omega) (by omega)]; exact m3
theorem MW_MF {τ s s' : Hp} (h : MF τ s) (g : MW s s') : MW τ s' := by
  obtain ⟨m1, m2, m3, m4, m5, m6, m7⟩ := g
  obtain ⟨h1, h2, h3, h4, h5, h6, h7, h8⟩ := h
  refine ⟨fun a ha => (m1 a ha).trans ?_, fun i hi => ?_, m3.trans h4, m4.trans h5, m5.trans h6, m6.trans h7, m7.trans h8⟩
  · rcases ha with rfl | rfl | ha | rfl | rfl
    · exact h1 _ (by omega) (by omega)
    · exact h1 _ (by omega) (by omega)
    · exact h1 _ (by omega) (by omega)
    · exact h2
    · exact h3
  · rw [← h1 2 (by omega) (by omega), ← h1 4 (by omega) (by omega), ← h1 5 (by omega) (by omega)]; exact m2 i hi
theorem MF_sub {τ s : Hp} (h1 : ∀ a, 1 ≤ a → a ≤ 12 → s a = τ a) (h25 : s 25 = τ 25) (h26 : s 26 = τ 26) (h0 : ∀ j, j < 17 → s 0 j = τ 0 j) : MF τ s := ⟨h1, h25, h26, h0 0 (by omega), h0 7 (by omega), h0 11 (by omega), h0 14 (by omega), h0 16 (by omega)⟩
theorem layOrder_e {τ : Hp} {N : Nat} (hN : 7 < N) : t_X7_layOrder N τ = some (SA τ 16 (fun i => τ 6 i) 7) := by
  unfold t_X7_layOrder t_X7_layOrder_2
  have := lr2 (R := Hp) (fun (k2 : Int32 → Hp → Option Hp) (v1 : Int32) (σ : Hp) => if 7 ≤ v1 then some σ else gi v1 7 (gi v1 7 (bnd (hset σ 16 v1.toNatClampNeg (σ 6 v1.toNatClampNeg)) (fun σ1 : Hp => bnd (v1 + 1) (fun x2 : Int32 => k2 x2 σ1))))) (fun i => nI i) (fun i => SA τ 16 (fun i => τ 6 i) i) 7 (some (SA τ 16 (fun i => τ 6 i) 7)) ?_ ?_ N (by omega)
  · rw [SA_0] at this; exact this
  · intro i hi k
    show (if (7 : Int32) ≤ nI i then _ else _) = _
    rw [if_neg (show ¬ (7 : Int32) ≤ nI i from nI_ge (a := i) (b := 7) hi (by omega)), gi_in hi (by omega), gi_in hi (by omega), nI_clamp (by omega), SA_o (by decide), bnd_e, bnd_e, nI_1]
    exact congrArg (k (nI (i + 1))) (SA_s (f := fun i => τ 6 i))
  · intro k
    exact if_pos (by decide)
theorem lay_RW {τ : Hp} {C : Cp} (r : RM τ C) (b : BC C) : RW (SA τ 16 (fun i => τ 6 i) 7) C :=
  ⟨by rw [SA_o (by decide)]; exact r.1, by rw [SA_o (by decide)]; exact r.2.1, fun p hp => by have := b.1; rw [SA_in (by omega)]; exact r.2.2.1 p (by omega), fun e he => by rw [SA_o (by decide), SA_o (by decide), SA_o (by decide), SA_o (by decide), SA_o (by decide)]; exact r.2.2.2 e he⟩
theorem keepNow_e {τ : Hp} {N : Nat} (hN : 7 < N) : ∃ s, t_X7_keepNow N τ = some s ∧ (∀ a, a ≠ 18 → s a = τ a) ∧ (∀ i, i < 7 → s 18 i = τ 2 i ∧ s 18 (7 + i) = τ 4 i ∧ s 18 (14 + i) = τ 5 i) ∧ s 18 21 = τ 0 7 := by
  unfold t_X7_keepNow t_X7_keepNow_2
  refine li2 _ (fun i (v : Int32) (s : Hp) => v = nI i ∧ (∀ a, a ≠ 18 → s a = τ a) ∧ ∀ j, j < i → s 18 j = τ 2 j ∧ s 18 (7 + j) = τ 4 j ∧ s 18 (14 + j) = τ 5 j) (fun (s : Hp) => (∀ a, a ≠ 18 → s a = τ a) ∧ (∀ i, i < 7 → s 18 i = τ 2 i ∧ s 18 (7 + i) = τ 4 i ∧ s 18 (14 + i) = τ 5 i) ∧ s 18 21 = τ 0 7) 7 ?_ ?_ N 0 τ hN ⟨rfl, fun _ _ => rfl, fun j hj => absurd hj (Nat.not_lt_zero j)⟩
  · intro i v s hi ⟨a1, a2, a3⟩
    subst a1
    refine Or.inr ⟨nI (i + 1), hset (hset (hset s 18 i (τ 2 i)) 18 (7 + i) (τ 4 i)) 18 (14 + i) (τ 5 i), ⟨rfl, fun a ha => by rw [hs_o ha, hs_o ha, hs_o ha]; exact a2 a ha, fun j hj => ?_⟩, fun k => ?_⟩
    · rcases (show j = i ∨ j < i by omega) with rfl | h
      · exact ⟨by rw [hs_k (by omega), hs_k (by omega), hs_eq], by rw [hs_k (by omega), hs_eq], hs_eq⟩
      · simp (disch := omega) only [hs_o, hs_k]; exact a3 j h
    · show (if (7 : Int32) ≤ nI i then _ else _) = _
      have e7 : (7 : Int32) + nI i = nI (7 + i) := by rw [show (7 : Int32) = nI 7 from rfl, nI_add]
      have e14 : (14 : Int32) + nI i = nI (14 + i) := by rw [show (14 : Int32) = nI 14 from rfl, nI_add]
      rw [if_neg (show ¬ (7 : Int32) ≤ nI i from nI_ge (a := i) (b := 7) hi (by omega)), e7, e14]
      simp only [gi_in (k := i) (n := 7) hi (by omega), gi_in (k := i) (n := 22) (by omega) (by omega), gi_in (k := 7 + i) (n := 22) (by omega) (by omega), gi_in (k := 14 + i) (n := 22) (by omega) (by omega), nI_clamp (n := i) (by omega), nI_clamp (n := 7 + i) (by omega), nI_clamp (n := 14 + i) (by omega), bnd_e, nI_1, a2 2 (by decide), hs_o (show 4 ≠ 18 by decide), hs_o (show 5 ≠ 18 by decide), a2 4 (by decide), a2 5 (by decide)]
  · intro v s ⟨a1, a2, a3⟩
    subst a1
    refine ⟨hset s 18 21 (s 0 7), ⟨fun a ha => by rw [hs_o ha]; exact a2 a ha, fun i hi => by simp (disch := omega) only [hs_o, hs_k]; exact a3 i hi, by rw [hs_eq, a2 0 (by decide)]⟩, fun k => ?_⟩
    refine (if_pos (show (7 : Int32) ≤ nI 7 by decide)).trans ?_
    rw [show (21 : Int32) = nI 21 from rfl, gi_in (by omega) (by omega), nI_clamp (by omega), bnd_e]
theorem putBack_e {τ s : Hp} {N : Nat} (hN : 7 < N) (h : MK τ s) : ∃ s', t_X7_putBack N s = some s' ∧ MW τ s' ∧ (∀ a, a ≠ 0 → a ≠ 2 → a ≠ 4 → a ≠ 5 → s' a = s a) ∧ ∀ j, j ≠ 7 → s' 0 j = s 0 j := by
  obtain ⟨m1, m2, m3, m4, m5, m6, m7⟩ := h
  have key : ∃ s', t_X7_putBack N s = some s' ∧ ((∀ i, i < 7 → s' 2 i = τ 2 i ∧ s' 4 i = τ 4 i ∧ s' 5 i = τ 5 i) ∧ s' 0 7 = τ 0 7 ∧ (∀ a, a ≠ 0 → a ≠ 2 → a ≠ 4 → a ≠ 5 → s' a = s a) ∧ ∀ j, j ≠ 7 → s' 0 j = s 0 j) := by
    unfold t_X7_putBack t_X7_putBack_2
    refine li2 _ (fun i (v : Int32) (t : Hp) => v = nI i ∧ (∀ a, a ≠ 2 → a ≠ 4 → a ≠ 5 → t a = s a) ∧ ∀ j, j < i → t 2 j = τ 2 j ∧ t 4 j = τ 4 j ∧ t 5 j = τ 5 j) _ 7 ?_ ?_ N 0 s hN ⟨rfl, fun _ _ _ _ => rfl, fun j hj => absurd hj (Nat.not_lt_zero j)⟩
    · intro i v t hi ⟨a1, a2, a3⟩
      subst a1
      obtain ⟨q1, q2, q3⟩ := m2 i hi
      refine Or.inr ⟨nI (i + 1), hset (hset (hset t 2 i (τ 2 i)) 4 i (τ 4 i)) 5 i (τ 5 i), ⟨rfl, fun a h2 h4 h5 => by rw [hs_o h5, hs_o h4, hs_o h2]; exact a2 a h2 h4 h5, fun j hj => ?_⟩, fun k => ?_⟩
      · rcases (show j = i ∨ j < i by omega) with rfl | h
        · exact ⟨by rw [hs_o (by decide), hs_o (by decide), hs_eq], by rw [hs_o (by decide), hs_eq], hs_eq⟩
        · have hne : j ≠ i := by omega
          exact ⟨by rw [hs_o (by decide), hs_o (by decide), hs_k hne]; exact (a3 j h).1, by rw [hs_o (by decide), hs_k hne, hs_o (by decide)]; exact (a3 j h).2.1, by rw [hs_k hne, hs_o (by decide), hs_o (by decide)]; exact (a3 j h).2.2⟩
      · show (if (7 : Int32) ≤ nI i then _ else _) = _
        have e7 : (7 : Int32) + nI i = nI (7 + i) := by rw [show (7 : Int32) = nI 7 from rfl, nI_add]
        have e14 : (14 : Int32) + nI i = nI (14 + i) := by rw [show (14 : Int32) = nI 14 from rfl, nI_add]
        rw [if_neg (show ¬ (7 : Int32) ≤ nI i from nI_ge (a := i) (b := 7) hi (by omega)), e7, e14]
        simp only [gi_in (k := i) (n := 7) hi (by omega), gi_in (k := i) (n := 22) (by omega) (by omega), gi_in (k := 7 + i) (n := 22) (by omega) (by omega), gi_in (k := 14 + i) (n := 22) (by omega) (by omega), nI_clamp (n := i) (by omega), nI_clamp (n := 7 + i) (by omega), nI_clamp (n := 14 + i) (by omega), bnd_e, nI_1, hs_o (show 18 ≠ 2 by decide), hs_o (show 18 ≠ 4 by decide), a2 18 (by decide) (by decide) (by decide), q1, q2, q3]
    · intro v t ⟨a1, a2, a3⟩
      subst a1
      refine ⟨hset t 0 7 (t 18 21), ⟨fun i hi => by simp (disch := omega) only [hs_o, hs_k]; exact a3 i hi, by rw [hs_eq, a2 18 (by decide) (by decide) (by decide)]; exact m3, fun a h0 h2 h4 h5 => by rw [hs_o h0]; exact a2 a h2 h4 h5, fun j hj => by rw [hs_k hj]; rw [a2 0 (by decide) (by decide) (by decide)]⟩, fun k => ?_⟩
      refine (if_pos (show (7 : Int32) ≤ nI 7 by decide)).trans ?_
      rw [show (21 : Int32) = nI 21 from rfl, gi_in (by omega) (by omega), nI_clamp (by omega), bnd_e]
  obtain ⟨s', q1, q2, q3, q4, q5⟩ := key
  refine ⟨s', q1, ⟨fun a ha => (q4 a (by omega) (by omega) (by omega) (by omega)).trans (m1 a ha), q2, (q5 0 (by decide)).trans m4, q3, (q5 11 (by decide)).trans m5, (q5 14 (by decide)).trans m6, (q5 16 (by decide)).trans m7⟩, q4, q5⟩
theorem HFr_MK {τ s s' : Hp} (h : MK τ s) (f : HFr s s') : MK τ s' := MK_fr h (fun a h0 h2 h4 h5 h => f.1 a h0 h2 h5 (by omega)) (f.2 0 (by decide) (by decide)) (f.2 11 (by decide) (by decide)) (f.2 14 (by decide) (by decide)) (f.2 16 (by decide) (by decide))
theorem RW_st {τ : Hp} {C : Cp} (r : RW τ C) (v : Nat) : RW (hset τ 0 7 (nI v)) (cset C 0 1 v) :=
  ⟨by rw [hs_k (by decide)]; exact r.1, by rw [hs_eq]; rfl, fun p hp => by rw [hs_o (by decide)]; exact r.2.2.1 p hp, fun e he => by simp (disch := omega) only [hs_o]; exact r.2.2.2 e he⟩
/-! a year -/
def yS (p : Nat) : Nat → Nat
  | 0 => p
  | k + 1 => (75 * yS p k + 74) % 65537
theorem yS_lt {p : Nat} (hp : p < 65537) : ∀ k, yS p k < 65537
  | 0 => hp
  | k + 1 => Nat.mod_lt _ (by omega)
def yT (D : Cp) (s : Nat) : Cp := cset D 0 1 (D 0 1 ^^^ 2 ^ (s % 6))
def yC (C : Cp) (p : Nat) : Nat → Cp
  | 0 => C
  | k + 1 => hrC (yT (yC C p k) (yS p (k + 1)))
def yD (C : Cp) (p k : Nat) : Cp := yT (yC C p k) (yS p (k + 1))
def yN (C : Cp) (p : Nat) : Nat → Nat
  | 0 => 0
  | k + 1 => yN C p k + pop7 (hbC (yD C p k))
def yL (C : Cp) (p : Nat) : Nat → Nat
  | 0 => 0
  | k + 1 => if pop7 (hbC (yD C p k)) = 0 then yL C p k else k + 1
def yW (C : Cp) (p : Nat) : Nat → Nat
  | 0 => 0
  | k + 1 => yW C p k + pop7 (yD C p k 0 1)
theorem BC_yT {D : Cp} (b : BC D) (s : Nat) : BC (yT D s) := BC_st b (xr6 _ b.2.1 _ (Nat.mod_lt _ (by omega))).2
theorem BC_yC {C : Cp} (b : BC C) (p : Nat) : ∀ k, BC (yC C p k)
  | 0 => b
  | k + 1 => BC_hr (BC_yT (BC_yC b p k) _)
theorem pop_le : ∀ b, b < 128 → pop7 b ≤ 7 := by decide +kernel
theorem yN_le {C : Cp} (b : BC C) (p : Nat) : ∀ k, yN C p k ≤ 7 * k
  | 0 => Nat.le_refl _
  | k + 1 => by
    have ih := yN_le b p k
    have := pop_le _ (hbC_lt (BC_yT (BC_yC b p k) (yS p (k + 1))))
    show yN C p k + pop7 (hbC (yD C p k)) ≤ _
    unfold yD; omega
theorem yL_le (C : Cp) (p : Nat) : ∀ k, yL C p k ≤ k
  | 0 => Nat.le_refl _
  | k + 1 => by have ih := yL_le C p k; unfold yL; split <;> omega
theorem seedX {s : Nat} (h : s < 65537) : ((75 : Int32) * nI s + 74) - ((75 : Int32) * nI s + 74) / 65537 * 65537 = nI ((75 * s + 74) % 65537) := by
  rw [show (75 : Int32) = nI 75 from rfl, show (74 : Int32) = nI 74 from rfl, show (65537 : Int32) = nI 65537 from rfl, pk_mul, nI_add, pk_rem (by omega) (by omega) (by omega)]
theorem seedM {s : Nat} (h : s < 65537) : ((((75 : Int64) * (nI s).toInt64) + 74) - (((75 : Int64) * (nI s).toInt64) + 74) / 65537 * 65537).toInt32 = nI ((75 * s + 74) % 65537) := by
  rw [show (75 : Int64) = lN 75 from rfl, show (74 : Int64) = lN 74 from rfl, show (65537 : Int64) = lN 65537 from rfl, nI_l (by omega), lN_mul, lN_add, pk_lRem (by omega) (by omega) (by omega), lN_i]
theorem six {s : Nat} (h : s < 65537) : nI s - nI s / 6 * 6 = nI (s % 6) := by
  rw [show (6 : Int32) = nI 6 from rfl]; exact pk_rem (by omega) (by omega) (by omega)
def yA (C : Cp) (p n w : Nat) : Int32 := if w = 0 then nI (yN C p n) else if w = 1 then nI (yL C p n) else nI (yW C p n)
theorem yearX_e {σ : Hp} {N p n w : Nat} {C : Cp} (r : RC σ 52 C) (b : BC C) (hN : 100 < N) (hp : p ≤ 9999) (hn : n ≤ 99) (hw : w ≤ 2) : ∃ σ', t_X6_year_62 N N (nI n) (nI w) (nI p) 0 0 0 1 σ = some (yA C p n w, σ') ∧ ∀ a, a < 52 → σ' a = σ a := by
  have key : ∃ q : Int32 × Hp, t_X6_year_62 N N (nI n) (nI w) (nI p) 0 0 0 1 σ = some q ∧ (q.1 = yA C p n w ∧ ∀ a, a < 52 → q.2 a = σ a) := by
    unfold t_X6_year_62
    refine li8 _ (fun k v2 v3 v4 v5 v6 v7 v8 s => v2 = nI n ∧ v3 = nI w ∧ v4 = nI (yS p k) ∧ v5 = nI (yN C p k) ∧ v6 = nI (yL C p k) ∧ v7 = nI (yW C p k) ∧ v8 = nI (k + 1) ∧ RC s 52 (yC C p k) ∧ ∀ a, a < 52 → s a = σ a) _ n ?_ ?_ N (nI n) (nI w) (nI p) 0 0 0 1 σ (by omega) ⟨rfl, rfl, rfl, rfl, rfl, rfl, rfl, r, fun _ _ => rfl⟩
    · intro k v2 v3 v4 v5 v6 v7 v8 s hk ⟨a1, a2, a3, a4, a5, a6, a7, a8, a9⟩
      subst a1; subst a2; subst a3; subst a4; subst a5; subst a6; subst a7
      have hs := yS_lt (p := p) (by omega) k
      have hs2 := yS_lt (p := p) (by omega) (k + 1)
      have bk := BC_yC b p k
      have bt : BC (yD C p k) := BC_yT bk (yS p (k + 1))
      have hx := xr6 _ bk.2.1 (yS p (k + 1) % 6) (Nat.mod_lt _ (by omega))
      have rt : RC (hset s 52 1 (nI (yC C p k 0 1 ^^^ 2 ^ (yS p (k + 1) % 6)))) 52 (yD C p k) := RC_st a8 _
      obtain ⟨s1, e1, r1, f1⟩ := hourX_e (N := N) rt bt (by omega)
      have hl := pop_le _ (hbC_lt bt)
      refine Or.inr ⟨nI n, nI w, nI (yS p (k + 1)), nI (yN C p (k + 1)), nI (yL C p (k + 1)), nI (yW C p (k + 1)), nI (k + 1 + 1), s1, ⟨rfl, rfl, rfl, rfl, rfl, rfl, rfl, r1, fun a ha => by rw [f1 a (by omega), hs_o (by omega)]; exact a9 a ha⟩, fun kk => ?_⟩
      show (if nI n < nI (k + 1) then _ else _) = _
      unfold t_X6_year_136
      rw [lt_nI (by omega) (by omega), if_neg (by omega), seedX hs, bnd_e]
      show Option.bind (t_X0_turnStove 52 (nI (yS p (k + 1)) - nI (yS p (k + 1)) / 6 * 6) s) _ = _
      rw [six hs2, turnStove_e, a8.2.1, (pw6 (yS p (k + 1) % 6) (Nat.mod_lt _ (by omega))).2, hx.1, bind_s, hs_eq, bitCount_e _ (by omega), bind_s, bnd_e, e1, b2_s, bitCount_e _ (hbC_lt bt), bind_s, bnd_e, bnd_e, bnd_e, nI_add, nI_add, nI_1, show (0 : Int32) = nI 0 from rfl, le_nI (by omega) (by omega)]
      show _ = kk _ _ _ _ (nI (if pop7 (hbC (yD C p k)) = 0 then yL C p k else k + 1)) _ _ _
      by_cases c : pop7 (hbC (yD C p k)) = 0
      · rw [if_pos c, if_pos (show pop7 (hbC (yD C p k)) ≤ 0 by omega)]; rfl
      · rw [if_neg c, if_neg (show ¬ pop7 (hbC (yD C p k)) ≤ 0 by omega)]; rfl
    · intro v2 v3 v4 v5 v6 v7 v8 s ⟨a1, a2, a3, a4, a5, a6, a7, a8, a9⟩
      subst a1; subst a2; subst a3; subst a4; subst a5; subst a6; subst a7
      refine ⟨(yA C p n w, s), ⟨rfl, a9⟩, fun kk => ?_⟩
      show (if nI n < nI (n + 1) then (if nI w = 0 then _ else if nI w = 1 then _ else _) else _) = _
      unfold yA
      rw [lt_nI (by omega) (by omega), if_pos (by omega), show (0 : Int32) = nI 0 from rfl, show (1 : Int32) = nI 1 from rfl, eq_nI (by omega) (by omega), eq_nI (by omega) (by omega)]
      split
      · rfl
      · split <;> rfl
  obtain ⟨⟨q, s⟩, q1, q2, q3⟩ := key
  exact ⟨s, by rw [q1]; exact congrArg (fun z => some (z, s)) q2, q3⟩
theorem yearM_e {τ0 τ : Hp} {N p n w : Nat} {C : Cp} (r : RW τ C) (b : BC C) (hN : 100 < N) (hp : p ≤ 9999) (hn : n ≤ 99) (hw : w ≤ 2) (hk : MK τ0 τ) (h23 : τ 0 23 = nI 0) (h24 : τ 0 24 = nI 0) : ∃ τ', t_X7_year_69 N N (nI n) (nI w) (nI p) 0 0 1 τ = some (yA C p n w, τ') ∧ MW τ0 τ' := by
  have key : ∃ q : Int32 × Hp, t_X7_year_69 N N (nI n) (nI w) (nI p) 0 0 1 τ = some q ∧ (q.1 = yA C p n w ∧ MW τ0 q.2) := by
    unfold t_X7_year_69
    refine li7 _ (fun k v2 v3 v4 v5 v6 v7 s => v2 = nI n ∧ v3 = nI w ∧ v4 = nI (yS p k) ∧ v5 = nI (yL C p k) ∧ v6 = nI (yW C p k) ∧ v7 = nI (k + 1) ∧ RW s (yC C p k) ∧ MK τ0 s ∧ s 0 23 = nI k ∧ s 0 24 = nI (yN C p k)) _ n ?_ ?_ N (nI n) (nI w) (nI p) 0 0 1 τ (by omega) ⟨rfl, rfl, rfl, rfl, rfl, rfl, r, hk, h23, h24⟩
    · intro k v2 v3 v4 v5 v6 v7 s hk ⟨a1, a2, a3, a4, a5, a6, a7, a8, a9, a10⟩
      subst a1; subst a2; subst a3; subst a4; subst a5; subst a6
      have hs := yS_lt (p := p) (by omega) k
      have hs2 := yS_lt (p := p) (by omega) (k + 1)
      have bk := BC_yC b p k
      have bt : BC (yD C p k) := BC_yT bk (yS p (k + 1))
      have hx := xr6 _ bk.2.1 (yS p (k + 1) % 6) (Nat.mod_lt _ (by omega))
      have rt : RW (hset s 0 7 (nI (yC C p k 0 1 ^^^ 2 ^ (yS p (k + 1) % 6)))) (yD C p k) := RW_st a7 _
      obtain ⟨s1, e1, r1, g1, g2, g3, f1⟩ := hourM_e (N := N) rt bt (by omega) (h := k) (c := yN C p k) (by rw [hs_k (by decide)]; exact a9) (by rw [hs_k (by decide)]; exact a10)
      have hl := pop_le _ (hbC_lt bt)
      have hNl := yN_le b p k
      have s17 : s1 0 7 = nI (yC C p k 0 1 ^^^ 2 ^ (yS p (k + 1) % 6)) := by rw [f1.2 7 (by decide) (by decide), hs_eq]
      refine Or.inr ⟨nI n, nI w, nI (yS p (k + 1)), nI (yL C p (k + 1)), nI (yW C p (k + 1)), nI (k + 1 + 1), s1, ⟨rfl, rfl, rfl, rfl, rfl, rfl, r1, HFr_MK (MK_fr a8 (fun a h0 _ _ _ _ => by rw [hs_o h0]) (by simp (disch := omega) only [hs_o, hs_k]) (by simp (disch := omega) only [hs_o, hs_k]) (by simp (disch := omega) only [hs_o, hs_k]) (by simp (disch := omega) only [hs_o, hs_k])) f1, g1, g2⟩, fun kk => ?_⟩
      show (if nI n < nI (k + 1) then _ else _) = _
      unfold t_X7_year_135
      rw [lt_nI (by omega) (by omega), if_neg (by omega), seedM hs, bnd_e]
      show bnd (hset s 0 7 ((s 0 7) ^^^ (1 <<< ((nI (yS p (k + 1)) - nI (yS p (k + 1)) / 6 * 6) &&& 31)))) _ = _
      rw [six hs2, (RW_i a7).2.1, (pw6 (yS p (k + 1) % 6) (Nat.mod_lt _ (by omega))).2, hx.1, bnd_e, bnd_e, e1, bind_s, hs_k (by decide), a10, g2, s17, ones_e (by omega) (by omega), bind_s, bind_s, bnd_e, bnd_e, bnd_e, bnd_e, nI_add, nI_1, le_nI (by omega) (by omega)]
      show _ = kk _ _ _ (nI (if pop7 (hbC (yD C p k)) = 0 then yL C p k else k + 1)) _ _ _
      by_cases c : pop7 (hbC (yD C p k)) = 0
      · rw [if_pos c, if_pos (show yN C p k + pop7 (hbC (yD C p k)) ≤ yN C p k by omega)]; rfl
      · rw [if_neg c, if_neg (show ¬ yN C p k + pop7 (hbC (yD C p k)) ≤ yN C p k by omega)]; rfl
    · intro v2 v3 v4 v5 v6 v7 s ⟨a1, a2, a3, a4, a5, a6, a7, a8, a9, a10⟩
      subst a1; subst a2; subst a3; subst a4; subst a5; subst a6
      obtain ⟨s', e1, e2, e3, e4⟩ := putBack_e (N := N) (by omega) a8
      refine ⟨(yA C p n w, s'), ⟨rfl, e2⟩, fun kk => ?_⟩
      show (if nI n < nI (n + 1) then Option.bind (t_X7_putBack N s) (fun σ4 : Hp => if nI w = 0 then _ else if nI w = 1 then _ else _) else _) = _
      unfold yA
      rw [lt_nI (by omega) (by omega), if_pos (by omega), e1, bind_s, e4 24 (by decide), a10, show (0 : Int32) = nI 0 from rfl, show (1 : Int32) = nI 1 from rfl, eq_nI (by omega) (by omega), eq_nI (by omega) (by omega)]
      split
      · rfl
      · split <;> rfl
  obtain ⟨⟨q, s⟩, q1, q2, q3⟩ := key
  exact ⟨s, by rw [q1]; exact congrArg (fun z => some (z, s)) q2, q3⟩
theorem k_year {N : Nat} (hN : 100 < N) {σ τ : Hp} (hR : Rl σ τ) (p0 p1 p2 : Int32) : ∃ r : Int32, ∃ σ1 : Hp, ∃ τ1 : Hp, t_X6_year N p0 p1 p2 σ = some (r, σ1) ∧ t_X7_year N p0 p1 p2 τ = some (r, τ1) ∧ Rl σ1 τ1 := by
  obtain ⟨C, H, pn, P, h1, h2, h3, h4, h5, h6, h7, h8, h9⟩ := id hR
  unfold t_X6_year t_X7_year
  simp only [isWithin_e, in_l (a := 0) (b := 9999) 0 9999 rfl rfl, in_l (a := 1) (b := 99) 1 99 rfl rfl, in_l (a := 0) (b := 2) 0 2 rfl rfl, bind_s]
  by_cases hq : p0 < 0 ∨ 9999 < p0
  · rw [ite_0 hq, ite_0 hq]; exact ⟨_, _, _, rfl, rfl, hR⟩
  obtain ⟨p, hp, rfl⟩ := rng_c (p := p0) (m := 9999) (by decide) hq
  rw [ite_1 hq, ite_1 hq]
  by_cases hq1 : p1 < 1 ∨ 99 < p1
  · rw [ite_0 hq1, ite_0 hq1]; exact ⟨_, _, _, rfl, rfl, hR⟩
  obtain ⟨n, hn, rfl⟩ := rng_c (p := p1) (m := 99) (by decide) (fun h => h.elim (fun h => hq1 (Or.inl (by rw [Int32.lt_iff_toInt_lt] at *; have : (0 : Int32).toInt = 0 := rfl; have : (1 : Int32).toInt = 1 := rfl; omega))) (fun h => hq1 (Or.inr h)))
  rw [ite_1 hq1, ite_1 hq1]
  by_cases hq2 : p2 < 0 ∨ 2 < p2
  · rw [ite_0 hq2, ite_0 hq2]; exact ⟨_, _, _, rfl, rfl, hR⟩
  obtain ⟨w, hw, rfl⟩ := rng_c (p := p2) (m := 2) (by decide) hq2
  rw [ite_1 hq2, ite_1 hq2]
  obtain ⟨s1, e1, f1, g1, c1⟩ := coopCopy_e (σ := σ) (N := N) (o := 52) (o2 := 2) (by omega) (by omega)
  obtain ⟨s2, e2, f2⟩ := yearX_e (N := N) (c1 C h1) h3 hN hp hn hw
  obtain ⟨t1, k1, k2, k3, k4⟩ := keepNow_e (N := N) (τ := SA τ 16 (fun i => τ 6 i) 7) (by omega)
  have rw1 : RW (hset (hset t1 0 23 0) 0 24 0) C := RW_fr (lay_RW h2 h3) (fun a _ _ => by simp (disch := omega) only [hs_o, hs_k]; exact k2 a (by omega)) (by simp (disch := omega) only [hs_o, hs_k]; exact k2 16 (by omega)) (by simp (disch := omega) only [hs_o, hs_k]; rw [k2 0 (by omega)]) (by simp (disch := omega) only [hs_o, hs_k]; rw [k2 0 (by omega)])
  have mk1 : MK τ (hset (hset t1 0 23 0) 0 24 0) := by
    refine ⟨fun a ha => by rw [hs_o (by omega), hs_o (by omega), k2 a (by omega), SA_o (by omega)], fun i hi => ?_, ?_, ?_, ?_, ?_, ?_⟩
    · rw [hs_o (by decide), hs_o (by decide)]
      have := k3 i hi
      rw [SA_o (by decide), SA_o (by decide), SA_o (by decide)] at this; exact this
    · rw [hs_o (by decide), hs_o (by decide), k4, SA_o (by decide)]
    · simp (disch := omega) only [hs_o, hs_k]; rw [k2 0 (by decide), SA_o (by decide)]
    · simp (disch := omega) only [hs_o, hs_k]; rw [k2 0 (by decide), SA_o (by decide)]
    · simp (disch := omega) only [hs_o, hs_k]; rw [k2 0 (by decide), SA_o (by decide)]
    · simp (disch := omega) only [hs_o, hs_k]; rw [k2 0 (by decide), SA_o (by decide)]
  obtain ⟨t2, m1, m2⟩ := yearM_e (N := N) (τ0 := τ) rw1 h3 hN hp hn hw mk1 (by rw [hs_k (by decide), hs_eq]; rfl) hs_eq
  rw [e1, bind_s, e2, layOrder_e (by omega), bind_s, k1, bind_s, bnd_e, bnd_e, m1]
  exact ⟨_, _, _, rfl, rfl, Rl_w hR (fun a ha => by rw [f2 a (by omega)]; exact f1 a (by omega) (by omega) (by omega)) m2⟩
