/-! an hour: all whole eggs warmed, then they hatch as dominoes -/
def RW (τ : Hp) (C : Cp) : Prop := τ 0 0 = nI (C 0 0) ∧ τ 0 7 = nI (C 0 1) ∧ (∀ p, p < C 0 0 → τ 16 p = nI (C 1 p)) ∧ ∀ e, e < 7 → τ 1 e = nI (C 2 (e * 5)) ∧ τ 2 e = nI (C 2 (e * 5 + 1)) ∧ τ 3 e = nI (C 2 (e * 5 + 2)) ∧ τ 4 e = nI (C 2 (e * 5 + 3)) ∧ τ 5 e = nI (C 2 (e * 5 + 4))
def swm (τ : Hp) (C : Cp) : Hp := fun a => if a = 6 then (fun p => nI (C 1 p)) else τ a
theorem RW_m {τ : Hp} {C : Cp} (r : RW τ C) : RM (swm τ C) C := ⟨r.1, r.2.1, fun p _ => rfl, fun e he => r.2.2.2 e he⟩
theorem RW_fr {τ τ' : Hp} {C : Cp} (r : RW τ C) (e : ∀ a, 1 ≤ a → a ≤ 5 → τ' a = τ a) (e16 : τ' 16 = τ 16) (e0 : τ' 0 0 = τ 0 0) (e7 : τ' 0 7 = τ 0 7) : RW τ' C := by
  refine ⟨e0.trans r.1, e7.trans r.2.1, fun p hp => by rw [e16]; exact r.2.2.1 p hp, fun x hx => ?_⟩
  rw [e 1 (by omega) (by omega), e 2 (by omega) (by omega), e 3 (by omega) (by omega), e 4 (by omega) (by omega), e 5 (by omega) (by omega)]
  exact r.2.2.2 x hx
theorem RW_fact {τ : Hp} {C : Cp} (r : RW τ C) {e k v : Nat} (he : e < 7) (hk : k < 5) : RW (hset τ (1 + k) e (nI v)) (cset C 2 (e * 5 + k) v) := by
  obtain ⟨q1, q2, q3, q4⟩ := RM_fact (RW_m r) (v := v) he hk
  have g : ∀ a x, a ≠ 6 → hset (swm τ C) (1 + k) e (nI v) a x = hset τ (1 + k) e (nI v) a x := fun a x h => by
    rw [hs_ok, hs_ok]; unfold swm; rw [if_neg h]
  rw [g 0 0 (by omega)] at q1
  rw [g 0 7 (by omega)] at q2
  refine ⟨q1, q2, fun p hp => ?_, fun x hx => ?_⟩
  · rw [cset_ne (by omega)] at hp
    rw [hs_o (by omega), cset_ne (by omega)]; exact r.2.2.1 p hp
  · have := q4 x hx
    rw [g 1 x (by omega), g 2 x (by omega), g 3 x (by omega), g 4 x (by omega), g 5 x (by omega)] at this; exact this
theorem RW_i {τ : Hp} {C : Cp} (r : RW τ C) : RW τ C := r
theorem RW_of {τ : Hp} {C : Cp} (r : RW τ C) : RW τ C := r
def wcd (D : Cp) (i : Nat) : Prop := D 2 (i * 5 + 4) = 0 ∧ (D 0 1).testBit (D 2 (i * 5 + 3)) = true ∧ D 2 (i * 5 + 1) < 9
def wst (D : Cp) (i : Nat) : Cp := if D 2 (i * 5 + 4) = 0 then (if (D 0 1).testBit (D 2 (i * 5 + 3)) = true then (if D 2 (i * 5 + 1) < 9 then cset D 2 (i * 5 + 1) (D 2 (i * 5 + 1) + 1) else D) else D) else D
def WC (C : Cp) : Nat → Cp
  | 0 => C
  | i + 1 => wst (WC C i) i
theorem wst_o {D : Cp} {i a b : Nat} (h : a ≠ 2) : wst D i a b = D a b := by
  unfold wst
  split
  · split
    · split
      · exact cset_ne (fun z => h z.1)
      · rfl
    · rfl
  · rfl
theorem WC_o {C : Cp} {a b : Nat} (h : a ≠ 2) : ∀ i, WC C i a b = C a b
  | 0 => rfl
  | i + 1 => (wst_o h).trans (WC_o h i)
theorem BC_wst {D : Cp} {i : Nat} (b : BC D) (hi : i < 7) : BC (wst D i) := by
  unfold wst
  split
  · split
    · split
      · exact BC_fact b hi (by omega) ⟨fun z => by omega, fun _ => by omega, fun z => by omega, fun z => by omega, fun z => by omega⟩
      · exact b
    · exact b
  · exact b
theorem BC_WC {C : Cp} (b : BC C) : ∀ i, i ≤ 7 → BC (WC C i)
  | 0, _ => b
  | i + 1, h => BC_wst (BC_WC b i (by omega)) (by omega)
theorem warmX_e {σ : Hp} {N o : Nat} {C : Cp} (r : RC σ o C) (b : BC C) (hN : 7 < N) : ∃ σ', t_X0_warm N o σ = some σ' ∧ RC σ' o (WC C (C 0 0)) ∧ ∀ a, a ≠ o + 2 → σ' a = σ a := by
  have hb := b.1
  unfold t_X0_warm t_X0_warm_2
  refine (li2 _ (fun i (v : Int32) (s : Hp) => v = nI i ∧ RC s o (WC C i) ∧ ∀ a, a ≠ o + 2 → s a = σ a) (fun (s : Hp) => RC s o (WC C (C 0 0)) ∧ ∀ a, a ≠ o + 2 → s a = σ a) (C 0 0) ?_ ?_ N 0 σ (by omega) ⟨rfl, r, fun _ _ => rfl⟩)
  · intro i v s hi ⟨a1, a2, a3⟩
    subst a1
    have hi7 : i < 7 := by omega
    have bd := BC_WC b i (by omega)
    have e0 : WC C i 0 0 = C 0 0 := WC_o (by omega) i
    obtain ⟨D, hD⟩ : ∃ D, WC C i = D := ⟨_, rfl⟩
    have u : WC C (i + 1) = wst D i := by rw [← hD]; rfl
    rw [hD] at bd a2 e0
    obtain ⟨k0, k1, k2, k3, k4⟩ := bd.2.2.2.2.2 i hi7
    have fr : ∀ k : Int32 → Hp → Option Hp, (if (s o 0) ≤ (nI i) then some s else Option.bind (t_X0_fact o (nI i) 1 s) (fun r2 : Int32 => Option.bind (t_X0_isWhole o (nI i) s) (fun r3 : Int32 => if r3 = 0 then t_X0_warm_56 N o k (nI i) s else Option.bind (t_X0_fact o (nI i) 3 s) (fun r4 : Int32 => Option.bind (t_X6_hasBit (s o 1) r4) (fun r5 : Int32 => if r5 = 0 then t_X0_warm_56 N o k (nI i) s else if 9 ≤ r2 then t_X0_warm_56 N o k (nI i) s else Option.bind (t_X0_setFact o (nI i) 1 (r2 + 1) s) (fun σ6 : Hp => t_X0_warm_56 N o k (nI i) σ6)))))) = k (nI (i + 1)) (if D 2 (i * 5 + 4) = 0 then (if (D 0 1).testBit (D 2 (i * 5 + 3)) = true then (if D 2 (i * 5 + 1) < 9 then hset s (o + 2) (i * 5 + 1) (nI (D 2 (i * 5 + 1) + 1)) else s) else s) else s) := by
      intro k
      unfold t_X0_warm_56
      have hbb := bd.2.1
      rw [a2.1, if_neg (nI_ge (by omega) (by omega)), show (1 : Int32) = nI 1 from rfl, show (3 : Int32) = nI 3 from rfl, fact_in hi7 (by omega), bind_s, isWhole_in hi7, bind_s, fact_in hi7 (by omega), bind_s, a2.2.1, a2.2.2.2 _ (by omega), a2.2.2.2 _ (by omega), a2.2.2.2 _ (by omega), hasBit_7 (by omega) (by omega), bind_s, if_ne, eq_nI (by omega) (by omega), if_ne, show (9 : Int32) = nI 9 from rfl, le_nI (by omega) (by omega), setFact_in hi7 (by omega), bind_s, bnd_e, bnd_e, nI_add, nI_add]
      by_cases c1 : D 2 (i * 5 + 4) = 0
      · rw [if_pos c1, if_pos c1]
        by_cases c2 : (D 0 1).testBit (D 2 (i * 5 + 3)) = true
        · rw [if_pos c2, if_pos c2]
          by_cases c3 : D 2 (i * 5 + 1) < 9
          · rw [if_pos c3, if_neg (by omega)]
          · rw [if_neg c3, if_pos (by omega)]
        · rw [if_neg c2, if_neg c2]
      · rw [if_neg c1, if_neg c1]
    refine Or.inr ⟨nI (i + 1), _, ⟨rfl, ?_, ?_⟩, fr⟩
    · rw [u]; unfold wst
      split
      · split
        · split
          · exact RC_fact a2
          · exact a2
        · exact a2
      · exact a2
    · intro a ha
      split
      · split
        · split
          · rw [hs_o ha]; exact a3 a ha
          · exact a3 a ha
        · exact a3 a ha
      · exact a3 a ha
  · intro v s ⟨a1, a2, a3⟩
    subst a1
    have e0 : WC C (C 0 0) 0 0 = C 0 0 := WC_o (by omega) _
    refine ⟨s, ⟨a2, a3⟩, fun k => ?_⟩
    show (if s o 0 ≤ nI (C 0 0) then _ else _) = _
    rw [a2.1, e0, if_pos (nI_le (Nat.le_refl _) (by omega))]
/-- hatched: those of a set -/
def HC (W : Cp) (b : Nat) : Cp := fun a j => if a = 2 ∧ j % 5 = 4 ∧ b.testBit (j / 5) = true then 1 else W a j
def HP (W : Cp) (b i : Nat) : Cp := fun a j => if a = 2 ∧ j % 5 = 4 ∧ j / 5 < i ∧ b.testBit (j / 5) = true then 1 else W a j
theorem HC_0 {W : Cp} : HC W 0 = W := by
  funext a j; unfold HC; rw [if_neg (fun z => by rw [Nat.zero_testBit] at z; exact absurd z.2.2 (by decide))]
theorem HC_ne {W : Cp} {b a j : Nat} (h : a ≠ 2 ∨ j % 5 ≠ 4) : HC W b a j = W a j := if_neg (fun z => h.elim (fun g => g z.1) (fun g => g z.2.1))
theorem HC_k {W : Cp} {b e : Nat} : HC W b 2 (e * 5 + 4) = if b.testBit e = true then 1 else W 2 (e * 5 + 4) := by
  unfold HC
  rw [show (e * 5 + 4) / 5 = e by omega]
  by_cases h : b.testBit e = true
  · rw [if_pos h, if_pos ⟨rfl, by omega, h⟩]
  · rw [if_neg h, if_neg (fun z => h z.2.2)]
theorem HC_s {W : Cp} {b e : Nat} : cset (HC W b) 2 (e * 5 + 4) 1 = HC W (b ||| 2 ^ e) := by
  funext a j
  unfold cset HC
  by_cases h : a = 2 ∧ j = e * 5 + 4
  · rw [if_pos h, if_pos ⟨h.1, by omega, by rw [Nat.testBit_or, Nat.testBit_two_pow, show j / 5 = e by omega]; simp⟩]
  · rw [if_neg h]
    by_cases h2 : a = 2 ∧ j % 5 = 4
    · have h3 : e ≠ j / 5 := fun z => h ⟨h2.1, by omega⟩
      rw [Nat.testBit_or, Nat.testBit_two_pow, decide_eq_false h3, Bool.or_false]
    · rw [if_neg (fun z => h2 ⟨z.1, z.2.1⟩), if_neg (fun z => h2 ⟨z.1, z.2.1⟩)]
theorem HP_0 {W : Cp} {b : Nat} : HP W b 0 = W := by funext a j; unfold HP; rw [if_neg (fun z => by omega)]
theorem HP_s {W : Cp} {b i : Nat} : HP W b (i + 1) = if b.testBit i = true then cset (HP W b i) 2 (i * 5 + 4) 1 else HP W b i := by
  funext a j
  by_cases hb : b.testBit i = true
  · rw [if_pos hb]; unfold cset HP
    by_cases h : a = 2 ∧ j = i * 5 + 4
    · rw [if_pos h, if_pos ⟨h.1, by omega, by omega, by rw [show j / 5 = i by omega]; exact hb⟩]
    · rw [if_neg h]
      by_cases h2 : a = 2 ∧ j % 5 = 4 ∧ j / 5 < i ∧ b.testBit (j / 5) = true
      · rw [if_pos h2, if_pos ⟨h2.1, h2.2.1, by omega, h2.2.2.2⟩]
      · rw [if_neg h2, if_neg (fun z => h2 ⟨z.1, z.2.1, by have : ¬ j = i * 5 + 4 := fun w => h ⟨z.1, w⟩; omega, z.2.2.2⟩)]
  · rw [if_neg hb]; unfold HP
    by_cases h2 : a = 2 ∧ j % 5 = 4 ∧ j / 5 < i ∧ b.testBit (j / 5) = true
    · rw [if_pos h2, if_pos ⟨h2.1, h2.2.1, by omega, h2.2.2.2⟩]
    · rw [if_neg h2, if_neg (fun z => h2 ⟨z.1, z.2.1, by
        have : ¬ j / 5 = i := fun w => hb (by rw [← w]; exact z.2.2.2)
        omega, z.2.2.2⟩)]
theorem HP_f {W : Cp} {b i : Nat} (h : ∀ e, b.testBit e = true → e < i) : HP W b i = HC W b := by
  funext a j; unfold HP HC
  by_cases h2 : a = 2 ∧ j % 5 = 4 ∧ b.testBit (j / 5) = true
  · rw [if_pos h2, if_pos ⟨h2.1, h2.2.1, h _ h2.2.2, h2.2.2⟩]
  · rw [if_neg h2, if_neg (fun z => h2 ⟨z.1, z.2.1, z.2.2.2⟩)]
theorem hbt_in {C : Cp} (b : BC C) (h : Nat) {p : Nat} (hp : p ≤ C 0 0) : ∀ e, (hbt C h p).testBit e = true → e < C 0 0 := fun e he => by
  obtain ⟨q, q1, q2⟩ := hbt_bit b h p hp e he
  rw [← q2]; exact b.2.2.1 q (by omega)
theorem hbt_new {C : Cp} (b : BC C) (h : Nat) {p : Nat} (hp : p < C 0 0) : (hbt C h p).testBit (C 1 p) = false := by
  cases hb : (hbt C h p).testBit (C 1 p)
  · rfl
  · obtain ⟨q, q1, q2⟩ := hbt_bit b h p (by omega) _ hb
    have := b.2.2.2.1 q p (by omega) (by omega) q2
    omega
theorem BC_HC {W : Cp} (b : BC W) (x : Nat) : BC (HC W x) := by
  have e0 : ∀ i j, i ≠ 2 → HC W x i j = W i j := fun i j h => HC_ne (Or.inl h)
  refine ⟨by rw [e0 0 0 (by omega)]; exact b.1, by rw [e0 0 1 (by omega)]; exact b.2.1, fun p hp => ?_, fun p q hp hq e => ?_, fun p hp => ?_, fun e he => ?_⟩
  · rw [e0 0 0 (by omega)] at hp ⊢; rw [e0 1 p (by omega)]; exact b.2.2.1 p hp
  · rw [e0 0 0 (by omega)] at hp hq; rw [e0 1 p (by omega), e0 1 q (by omega)] at e; exact b.2.2.2.1 p q hp hq e
  · rw [e0 1 p (by omega)]; exact b.2.2.2.2.1 p hp
  · obtain ⟨k0, k1, k2, k3, k4⟩ := b.2.2.2.2.2 e he
    rw [HC_ne (Or.inr (by omega)), HC_ne (Or.inr (by omega)), HC_ne (Or.inr (by omega)), HC_ne (Or.inr (by omega)), HC_k]
    refine ⟨k0, k1, k2, k3, ?_⟩
    split <;> omega
/-- the eggs that hatch in an hour; the coop behind it -/
def hbC (C : Cp) : Nat := hbt (WC C (C 0 0)) 0 (C 0 0)
def hrC (C : Cp) : Cp := HC (WC C (C 0 0)) (hbC C)
theorem BC_hr {C : Cp} (b : BC C) : BC (hrC C) := BC_HC (BC_WC b _ b.1.2) _
theorem hr_o {C : Cp} {a j : Nat} (h : a ≠ 2) : hrC C a j = C a j := (HC_ne (Or.inl h)).trans (WC_o h _)
theorem hbC_lt {C : Cp} (b : BC C) : hbC C < 128 := hbt_lt (BC_WC b _ b.1.2) 0 _ (by rw [WC_o (by omega)]; exact Nat.le_refl _)
theorem hourX_e {σ : Hp} {N o : Nat} {C : Cp} (r : RC σ o C) (b : BC C) (hN : 7 < N) : ∃ σ', t_X0_passHour N o σ = some (nI (hbC C), σ') ∧ RC σ' o (hrC C) ∧ ∀ a, a ≠ o + 2 → σ' a = σ a := by
  have hb := b.1
  obtain ⟨s1, e1, r1, f1⟩ := warmX_e r b hN
  obtain ⟨W, hW⟩ : ∃ W, WC C (C 0 0) = W := ⟨_, rfl⟩
  have bw : BC W := by rw [← hW]; exact BC_WC b _ hb.2
  have w0 : W 0 0 = C 0 0 := by rw [← hW]; exact WC_o (by omega) _
  rw [hW] at r1
  have hx := hatchX_e (h := 0) r1 bw hN (by omega)
  rw [w0] at hx
  have hbe : hbC C = hbt W 0 (C 0 0) := by unfold hbC; rw [hW]
  have hlt := hbt_lt bw 0 (C 0 0) (by omega)
  obtain ⟨x, hxx⟩ : ∃ x, hbt W 0 (C 0 0) = x := ⟨_, rfl⟩
  have hin : ∀ e, x.testBit e = true → e < C 0 0 := by rw [← hxx, ← w0]; exact hbt_in bw 0 (Nat.le_refl _)
  rw [hxx] at hx hbe hlt
  have key : ∃ q : Int32 × Hp, t_X0_passHour_12 N o N (nI x) 0 s1 = some q ∧ (q.1 = nI x ∧ RC q.2 o (HP W x (C 0 0)) ∧ ∀ a, a ≠ o + 2 → q.2 a = s1 a) := by
    unfold t_X0_passHour_12
    refine li3 _ (fun i v1 v2 s => v1 = nI x ∧ v2 = nI i ∧ RC s o (HP W x i) ∧ ∀ a, a ≠ o + 2 → s a = s1 a) _ (C 0 0) ?_ ?_ N _ _ _ (by omega) ⟨rfl, rfl, by rw [HP_0]; exact r1, fun _ _ => rfl⟩
    · intro i v1 v2 s hi ⟨a1, a2, a3, a4⟩
      subst a1; subst a2
      have hi7 : i < 7 := by omega
      have h0 : HP W x i 0 0 = C 0 0 := by rw [← w0]; exact if_neg (fun z => by omega)
      refine Or.inr ⟨nI x, nI (i + 1), if x.testBit i = true then hset s (o + 2) (i * 5 + 4) (nI 1) else s, ⟨rfl, rfl, ?_, fun a ha => ?_⟩, fun k => ?_⟩
      · rw [HP_s]; split
        · exact RC_fact a3
        · exact a3
      · split
        · rw [hs_o ha]; exact a4 a ha
        · exact a4 a ha
      · show (if s o 0 ≤ nI i then _ else _) = _
        unfold t_X0_passHour_35
        rw [a3.1, h0, if_neg (nI_ge hi (by omega)), hasBit_7 hlt hi7, bind_s, if_ne, show (4 : Int32) = nI 4 from rfl, setFact_in hi7 (by omega), bind_s, bnd_e, bnd_e, nI_1]
        by_cases c : x.testBit i = true
        · rw [if_pos c, if_pos c]; rfl
        · rw [if_neg c, if_neg c]
    · intro v1 v2 s ⟨a1, a2, a3, a4⟩
      subst a1; subst a2
      have h0 : HP W x (C 0 0) 0 0 = C 0 0 := by rw [← w0]; exact if_neg (fun z => by omega)
      refine ⟨(nI x, s), ⟨rfl, a3, a4⟩, fun k => ?_⟩
      show (if s o 0 ≤ nI (C 0 0) then _ else _) = _
      rw [a3.1, h0, if_pos (nI_le (Nat.le_refl _) (by omega))]
  obtain ⟨⟨q, s⟩, q1, q2, q3, q4⟩ := key
  refine ⟨s, ?_, ?_, fun a ha => (q4 a ha).trans (f1 a ha)⟩
  · unfold t_X0_passHour
    rw [e1, bind_s, show (0 : Int32) = nI 0 from rfl, hx, bind_s, hbe]
    exact q1.trans (congrArg (fun z => some (z, s)) q2)
  · unfold hrC; rw [hW, hbe, ← HP_f hin]; exact q3
theorem pop_or : ∀ b, b < 128 → ∀ e, e < 7 → b.testBit e = false → pop7 (b ||| 2 ^ e) = pop7 b + 1 := by decide +kernel
/-- what the model's hour leaves alone -/
def HFr (τ s : Hp) : Prop := (∀ a, a ≠ 0 → a ≠ 2 → a ≠ 5 → a ≠ 17 → s a = τ a) ∧ ∀ j, j ≠ 23 → j ≠ 24 → s 0 j = τ 0 j
theorem domM_e {τ : Hp} {N h c : Nat} {W : Cp} (r : RW τ W) (b : BC W) (hN : 7 < N) (h23 : τ 0 23 = nI h) (h24 : τ 0 24 = nI c) : ∃ τ', t_X7_passHour_91 N N 1 0 τ = some τ' ∧ RW τ' (HC W (hbt W 0 (W 0 0))) ∧ τ' 0 23 = nI h ∧ τ' 0 24 = nI (c + pop7 (hbt W 0 (W 0 0))) ∧ (∀ e, e < 7 → τ' 17 e = if (hbt W 0 (W 0 0)).testBit e = true then nI h else τ 17 e) ∧ (∀ a, a ≠ 0 → a ≠ 5 → a ≠ 17 → τ' a = τ a) ∧ ∀ j, j ≠ 24 → τ' 0 j = τ 0 j := by
  have hb := b.1
  unfold t_X7_passHour_91
  refine li3 _ (fun p v1 v2 s => v1 = bI (gs W 0 p) ∧ v2 = nI p ∧ RW s (HC W (hbt W 0 p)) ∧ s 0 23 = nI h ∧ s 0 24 = nI (c + pop7 (hbt W 0 p)) ∧ (∀ e, e < 7 → s 17 e = if (hbt W 0 p).testBit e = true then nI h else τ 17 e) ∧ (∀ a, a ≠ 0 → a ≠ 5 → a ≠ 17 → s a = τ a) ∧ ∀ j, j ≠ 24 → s 0 j = τ 0 j) (fun (s : Hp) => RW s (HC W (hbt W 0 (W 0 0))) ∧ s 0 23 = nI h ∧ s 0 24 = nI (c + pop7 (hbt W 0 (W 0 0))) ∧ (∀ e, e < 7 → s 17 e = if (hbt W 0 (W 0 0)).testBit e = true then nI h else τ 17 e) ∧ (∀ a, a ≠ 0 → a ≠ 5 → a ≠ 17 → s a = τ a) ∧ ∀ j, j ≠ 24 → s 0 j = τ 0 j) (W 0 0) ?_ ?_ N _ _ _ (by omega) ⟨rfl, rfl, by rw [show hbt W 0 0 = 0 from rfl, HC_0]; exact r, h23, (by rw [show hbt W 0 0 = 0 from rfl]; exact h24), fun e _ => by rw [show hbt W 0 0 = 0 from rfl, Nat.zero_testBit, if_neg (by decide)], fun _ _ _ _ => rfl, fun _ _ => rfl⟩
  · intro p v1 v2 s hp ⟨a1, a2, a3, a4, a5, a6, a7, a8⟩
    subst a1; subst a2
    have ri := RW_i a3
    have z0 : HC W (hbt W 0 p) 0 0 = W 0 0 := HC_ne (Or.inl (by omega))
    cases hg : gs W 0 p
    · have e1 : hbt W 0 (W 0 0) = hbt W 0 p := by
        have := hbt_off (C := W) (h := 0) (p := p) (by show (gs W 0 p && _) = false; rw [hg]; rfl) (W 0 0 - p)
        rw [show p + (W 0 0 - p) = W 0 0 by omega] at this; exact this
      refine Or.inl ⟨s, by rw [e1]; exact ⟨a3, a4, a5, a6, a7, a8⟩, fun k => ?_⟩
      show (if s 0 0 ≤ nI p then _ else if bI false = 0 then _ else _) = _
      rw [ri.1, z0, if_neg (nI_ge hp (by omega)), if_pos (show bI false = 0 from rfl)]
    · obtain ⟨x, hx⟩ : ∃ x, W 1 p = x := ⟨_, rfl⟩
      have hx7 : x < 7 := by rw [← hx]; exact b.2.2.2.2.1 p (by omega)
      obtain ⟨k0, k1, k2, k3, k4⟩ := b.2.2.2.2.2 x hx7
      obtain ⟨d0, d1, d2, d3, d4⟩ := ri.2.2.2 x hx7
      have hnew := hbt_new b 0 hp
      have hlt := hbt_lt b 0 p (by omega)
      rw [hx] at hnew
      rw [HC_ne (Or.inr (by omega))] at d0 d1
      rw [HC_k, hnew, if_neg (by decide)] at d4
      have d16 : s 16 p = nI x := by rw [ri.2.2.1 p (by omega), HC_ne (Or.inl (by omega)), hx]
      have ug : gs W 0 (p + 1) = (W 2 (x * 5 + 4) == 1 || (W 2 (x * 5 + 4) == 0 && rdy W 0 x)) := by
        show (gs W 0 p && (W 2 (W 1 p * 5 + 4) == 1 || (W 2 (W 1 p * 5 + 4) == 0 && rdy W 0 (W 1 p)))) = _
        rw [hg, Bool.true_and, hx]
      have ur : rdy W 0 x = decide (W 2 (x * 5) ≤ W 2 (x * 5 + 1)) := by unfold rdy; rw [Nat.zero_testBit, Bool.or_false]
      have uh : hbt W 0 (p + 1) = if gs W 0 (p + 1) = true ∧ W 2 (x * 5 + 4) = 0 then hbt W 0 p ||| 2 ^ x else hbt W 0 p := by
        show (if (gs W 0 (p + 1) && W 2 (W 1 p * 5 + 4) == 0) = true then _ else _) = _
        rw [hx]
        by_cases q : gs W 0 (p + 1) = true ∧ W 2 (x * 5 + 4) = 0
        · rw [if_pos q, if_pos (by rw [q.1, q.2]; rfl)]
        · rw [if_neg q, if_neg (fun z => q (by rw [Bool.and_eq_true, beq_iff_eq] at z; exact z))]
      have fr : ∀ k : Int32 → Int32 → Hp → Option Hp, (if (s 0 0) ≤ (nI p) then some s else if (bI true) = 0 then some s else gi (nI p) 7 (bnd (s 16 (nI p).toNatClampNeg) (fun x2 : Int32 => gi x2 7 (if (s 5 x2.toNatClampNeg) = 0 then gi x2 7 (gi x2 7 (if (s 2 x2.toNatClampNeg) < (s 1 x2.toNatClampNeg) then t_X7_passHour_161 N k (nI p) x2 s else gi x2 7 (bnd (hset s 5 x2.toNatClampNeg 1) (fun σ3 : Hp => bnd (hset σ3 0 24 ((σ3 0 24) + 1)) (fun σ4 : Hp => gi x2 7 (bnd (hset σ4 17 x2.toNatClampNeg (σ4 0 23)) (fun σ5 : Hp => t_X7_passHour_161 N k (nI p) x2 σ5))))))) else t_X7_passHour_161 N k (nI p) x2 s)))) = if W 2 (x * 5 + 4) = 0 then (if W 2 (x * 5 + 1) < W 2 (x * 5) then k (bI false) (nI (p + 1)) s else k (bI true) (nI (p + 1)) (hset (hset (hset s 5 x (nI 1)) 0 24 (nI (c + pop7 (hbt W 0 p) + 1))) 17 x (nI h))) else if W 2 (x * 5 + 4) = 1 then k (bI true) (nI (p + 1)) s else k (bI false) (nI (p + 1)) s := by
        intro k
        unfold t_X7_passHour_161 t_X7_passHour_176
        have g1 : ∀ y : Int32, (hset (hset s 5 x (nI 1)) 0 24 y) 0 23 = nI h := fun y => by rw [hs_k (by decide), hs_o (by decide)]; exact a4
        have g2 : ∀ y z : Int32, (hset (hset (hset s 5 x (nI 1)) 0 24 y) 17 x z) 5 x = nI 1 := fun y z => by rw [hs_o (by decide), hs_o (by decide), hs_eq]
        have g3 : (hset s 5 x (nI 1)) 0 24 = nI (c + pop7 (hbt W 0 p)) := by rw [hs_o (by decide)]; exact a5
        rw [ri.1, z0, if_neg (nI_ge hp (by omega)), if_neg (show ¬ bI true = 0 by decide), gi_in (by omega) (by omega), nI_clamp (by omega), d16, bnd_e]
        simp only [gi_in (k := x) (n := 7) hx7 (by omega), nI_clamp (n := x) (by omega), d0, d1, d4, bnd_e, show (1 : Int32) = nI 1 from rfl, g1, g2, g3, nI_add, if_true]
        rw [lt_nI (by omega) (by omega), show (0 : Int32) = nI 0 from rfl, eq_nI (by omega) (by omega), eq_nI (a := W 2 (x * 5 + 4)) (b := 1) (by omega) (by omega)]
        by_cases q0 : W 2 (x * 5 + 4) = 0
        · rw [if_pos q0, if_pos q0, if_neg (show ¬ W 2 (x * 5 + 4) = 1 by omega)]
          by_cases q1 : W 2 (x * 5 + 1) < W 2 (x * 5)
          · rw [if_pos q1, if_pos q1]; rfl
          · rw [if_neg q1, if_neg q1]; rfl
        · rw [if_neg q0, if_neg q0]; rfl
      by_cases q0 : W 2 (x * 5 + 4) = 0
      · by_cases q1 : W 2 (x * 5 + 1) < W 2 (x * 5)
        · have v1 : gs W 0 (p + 1) = false := by rw [ug, ur, q0, decide_eq_false (by omega)]; rfl
          have v2 : hbt W 0 (p + 1) = hbt W 0 p := by rw [uh, if_neg (fun z => by rw [v1] at z; exact absurd z.1 (by decide))]
          refine Or.inr ⟨bI false, nI (p + 1), s, ⟨by rw [v1], rfl, ?_⟩, fun k => (fr k).trans (by rw [if_pos q0, if_pos q1])⟩
          rw [v2]; exact ⟨a3, a4, a5, a6, a7, a8⟩
        · have v1 : gs W 0 (p + 1) = true := by rw [ug, ur, q0, decide_eq_true (by omega)]; rfl
          have v2 : hbt W 0 (p + 1) = hbt W 0 p ||| 2 ^ x := by rw [uh, if_pos ⟨v1, q0⟩]
          refine Or.inr ⟨bI true, nI (p + 1), _, ⟨by rw [v1], rfl, ?_⟩, fun k => (fr k).trans (by rw [if_pos q0, if_neg q1])⟩
          rw [v2]
          refine ⟨?_, by rw [hs_o (by decide), hs_k (by decide), hs_o (by decide)]; exact a4, ?_, fun e he => ?_, fun a h0 h5 h17 => ?_, fun j hj => ?_⟩
          · rw [← HC_s]
            exact RW_fr (RW_fact (k := 4) (v := 1) a3 hx7 (by omega)) (fun a _ _ => by simp (disch := omega) only [hs_o, hs_k]) (by simp (disch := omega) only [hs_o, hs_k]) (by simp (disch := omega) only [hs_o, hs_k]) (by simp (disch := omega) only [hs_o, hs_k])
          · rw [hs_o (by decide), hs_eq, pop_or _ hlt x hx7 hnew]; rfl
          · rw [Nat.testBit_or, Nat.testBit_two_pow]
            by_cases hex : e = x
            · subst hex; rw [hs_eq, if_pos (by simp)]
            · rw [hs_k hex, hs_o (by decide), hs_o (by decide), a6 e he, show decide (x = e) = false by simp; exact fun z => hex z.symm, Bool.or_false]
          · rw [hs_o h17, hs_o h0, hs_o h5]; exact a7 a h0 h5 h17
          · rw [hs_o (by decide), hs_k hj, hs_o (by decide)]; exact a8 j hj
      · have v2 : hbt W 0 (p + 1) = hbt W 0 p := by rw [uh, if_neg (fun z => q0 z.2)]
        by_cases q1 : W 2 (x * 5 + 4) = 1
        · have v1 : gs W 0 (p + 1) = true := by rw [ug, q1]; rfl
          refine Or.inr ⟨bI true, nI (p + 1), s, ⟨by rw [v1], rfl, ?_⟩, fun k => (fr k).trans (by rw [if_neg q0, if_pos q1])⟩
          rw [v2]; exact ⟨a3, a4, a5, a6, a7, a8⟩
        · have v1 : gs W 0 (p + 1) = false := by rw [ug, show (W 2 (x * 5 + 4) == 1) = false by simp [q1], show (W 2 (x * 5 + 4) == 0) = false by simp [q0]]; rfl
          refine Or.inr ⟨bI false, nI (p + 1), s, ⟨by rw [v1], rfl, ?_⟩, fun k => (fr k).trans (by rw [if_neg q0, if_neg q1])⟩
          rw [v2]; exact ⟨a3, a4, a5, a6, a7, a8⟩
  · intro v1 v2 s ⟨a1, a2, a3, a4⟩
    subst a2
    refine ⟨s, ⟨a3, a4⟩, fun k => ?_⟩
    show (if s 0 0 ≤ nI (W 0 0) then _ else _) = _
    rw [(RW_i a3).1, HC_ne (Or.inl (by omega)), if_pos (nI_le (Nat.le_refl _) (by omega))]
theorem hourM_e {τ : Hp} {N h c : Nat} {C : Cp} (r : RW τ C) (b : BC C) (hN : 7 < N) (h23 : τ 0 23 = nI h) (h24 : τ 0 24 = nI c) : ∃ τ', t_X7_passHour N τ = some τ' ∧ RW τ' (hrC C) ∧ τ' 0 23 = nI (h + 1) ∧ τ' 0 24 = nI (c + pop7 (hbC C)) ∧ (∀ e, e < 7 → τ' 17 e = if (hbC C).testBit e = true then nI (h + 1) else τ 17 e) ∧ HFr τ τ' := by
  have hb := b.1
  unfold t_X7_passHour t_X7_passHour_12
  rw [bnd_e, h23, nI_1]
  have r1 : RW (hset τ 0 23 (nI (h + 1))) C := RW_fr r (fun a _ _ => by simp (disch := omega) only [hs_o, hs_k]) (by simp (disch := omega) only [hs_o, hs_k]) (by simp (disch := omega) only [hs_o, hs_k]) (by simp (disch := omega) only [hs_o, hs_k])
  refine li2 _ (fun i (v : Int32) (s : Hp) => v = nI i ∧ RW s (WC C i) ∧ s 0 23 = nI (h + 1) ∧ s 0 24 = nI c ∧ (∀ a, a ≠ 0 → a ≠ 2 → s a = τ a) ∧ ∀ j, j ≠ 23 → s 0 j = τ 0 j) (fun (s : Hp) => RW s (hrC C) ∧ s 0 23 = nI (h + 1) ∧ s 0 24 = nI (c + pop7 (hbC C)) ∧ (∀ e, e < 7 → s 17 e = if (hbC C).testBit e = true then nI (h + 1) else τ 17 e) ∧ HFr τ s) (C 0 0) ?_ ?_ N 0 _ (by omega) ⟨rfl, r1, hs_eq, by rw [hs_k (by decide)]; exact h24, fun a h0 _ => by simp (disch := omega) only [hs_o, hs_k], fun j hj => by rw [hs_k hj]⟩
  · intro i v s hi ⟨a1, a2, a3, a4, a5, a6⟩
    subst a1
    have hi7 : i < 7 := by omega
    have bd := BC_WC b i (by omega)
    have e0 : WC C i 0 0 = C 0 0 := WC_o (by omega) i
    obtain ⟨D, hD⟩ : ∃ D, WC C i = D := ⟨_, rfl⟩
    have u : WC C (i + 1) = wst D i := by rw [← hD]; rfl
    rw [hD] at bd a2 e0
    have ri := RW_i a2
    obtain ⟨k0, k1, k2, k3, k4⟩ := bd.2.2.2.2.2 i hi7
    obtain ⟨d0, d1, d2, d3, d4⟩ := ri.2.2.2 i hi7
    have fr : ∀ k : Int32 → Hp → Option Hp, (if (s 0 0) ≤ (nI i) then t_X7_passHour_91 N N 1 0 s else gi (nI i) 7 (if (s 5 (nI i).toNatClampNeg) = 0 then gi (nI i) 7 (if (((s 0 7) >>> ((s 4 (nI i).toNatClampNeg) &&& 31)) &&& 1) = 1 then t_X7_passHour_51 N k (nI i) 1 s else t_X7_passHour_50 N k (nI i) s) else t_X7_passHour_50 N k (nI i) s)) = k (nI (i + 1)) (if D 2 (i * 5 + 4) = 0 then (if (D 0 1).testBit (D 2 (i * 5 + 3)) = true then (if D 2 (i * 5 + 1) < 9 then hset s 2 i (nI (D 2 (i * 5 + 1) + 1)) else s) else s) else s) := by
      intro k
      unfold t_X7_passHour_50 t_X7_passHour_51 t_X7_passHour_78 t_X7_passHour_79
      have hbb := bd.2.1
      have hz : ∀ x : Int32, x + 0 = x := fun x => by rw [Int32.add_zero]
      rw [ri.1, if_neg (nI_ge (by omega) (by omega))]
      simp only [gi_in (k := i) (n := 7) hi7 (by omega), nI_clamp (n := i) (by omega), d3, d4, ri.2.1, bnd_e, hz, hset_id, nI_1, if_true, show ¬ (1 : Int32) = 0 by decide, if_false]
      rw [has7 _ (by omega) _ (by omega), if_e1, d1, show (9 : Int32) = nI 9 from rfl, le_nI (by omega) (by omega), show (0 : Int32) = nI 0 from rfl, eq_nI (by omega) (by omega), nI_1]
      by_cases c1 : D 2 (i * 5 + 4) = 0
      · rw [if_pos c1, if_pos c1]
        by_cases c2 : (D 0 1).testBit (D 2 (i * 5 + 3)) = true
        · rw [if_pos c2, if_pos c2]
          by_cases c3 : D 2 (i * 5 + 1) < 9
          · rw [if_pos c3, if_neg (by omega)]
          · rw [if_neg c3, if_pos (by omega)]
        · rw [if_neg c2, if_neg c2]
      · rw [if_neg c1, if_neg c1]
    refine Or.inr ⟨nI (i + 1), _, ⟨rfl, ?_⟩, fr⟩
    rw [u]; unfold wst
    split
    · split
      · split
        · exact ⟨RW_fact (k := 1) a2 hi7 (by omega), by rw [hs_o (by decide)]; exact a3, by rw [hs_o (by decide)]; exact a4, fun a h0 h2 => by rw [hs_o h2]; exact a5 a h0 h2, fun j hj => by rw [hs_o (by decide)]; exact a6 j hj⟩
        · exact ⟨a2, a3, a4, a5, a6⟩
      · exact ⟨a2, a3, a4, a5, a6⟩
    · exact ⟨a2, a3, a4, a5, a6⟩
  · intro v s ⟨a1, a2, a3, a4, a5, a6⟩
    subst a1
    have e0 : WC C (C 0 0) 0 0 = C 0 0 := WC_o (by omega) _
    obtain ⟨s', q1, q2, q3, q4, q5, q6, q7⟩ := domM_e (N := N) a2 (BC_WC b _ hb.2) hN a3 a4
    rw [e0] at q2 q4 q5
    refine ⟨s', ⟨q2, q3, q4, fun e he => ?_, fun a h0 h2 h5 h17 => ?_, fun j h1 h2 => ?_⟩, fun k => ?_⟩
    · rw [q5 e he, a5 17 (by decide) (by decide)]; rfl
    · rw [q6 a h0 h5 h17]; exact a5 a h0 h2
    · rw [q7 j h2]; exact a6 j h1
    · show (if s 0 0 ≤ nI (C 0 0) then _ else _) = _
      rw [(RW_i a2).1, e0, if_pos (nI_le (Nat.le_refl _) (by omega))]; exact q1
