abbrev Cp : Type := Nat → Nat → Nat
def cset (C : Cp) (i j v : Nat) : Cp := fun a b => if a = i ∧ b = j then v else C a b
def RC (σ : Hp) (o : Nat) (C : Cp) : Prop := σ o 0 = nI (C 0 0) ∧ σ o 1 = nI (C 0 1) ∧ (∀ p, p < 7 → σ (o + 1) p = nI (C 1 p)) ∧ ∀ j, j < 35 → σ (o + 2) j = nI (C 2 j)
def RM (τ : Hp) (C : Cp) : Prop := τ 0 0 = nI (C 0 0) ∧ τ 0 7 = nI (C 0 1) ∧ (∀ p, p < 7 → τ 6 p = nI (C 1 p)) ∧ ∀ e, e < 7 → τ 1 e = nI (C 2 (e * 5)) ∧ τ 2 e = nI (C 2 (e * 5 + 1)) ∧ τ 3 e = nI (C 2 (e * 5 + 2)) ∧ τ 4 e = nI (C 2 (e * 5 + 3)) ∧ τ 5 e = nI (C 2 (e * 5 + 4))
def BC (C : Cp) : Prop := (1 ≤ C 0 0 ∧ C 0 0 ≤ 7) ∧ C 0 1 < 64 ∧ (∀ p, p < C 0 0 → C 1 p < C 0 0) ∧ (∀ p q, p < C 0 0 → q < C 0 0 → C 1 p = C 1 q → p = q) ∧ (∀ p, p < 7 → C 1 p < 7) ∧ ∀ e, e < 7 → (1 ≤ C 2 (e * 5) ∧ C 2 (e * 5) ≤ 9) ∧ C 2 (e * 5 + 1) ≤ 9 ∧ C 2 (e * 5 + 2) ≤ 99 ∧ C 2 (e * 5 + 3) < 6 ∧ C 2 (e * 5 + 4) ≤ 2
def RH (σ : Hp) (o : Nat) (H : Cp) : Prop := σ o 0 = nI (H 0 0) ∧ σ o 1 = nI (H 0 1) ∧ (∀ i, i < 12 → σ (o + 1) i = nI (H 1 i) ∧ σ (o + 2) i = nI (H 2 i) ∧ σ (o + 3) i = nI (H 3 i)) ∧ ∀ i, i < 7 → σ (o + 4) i = nI (H 4 i) ∧ σ (o + 5) i = nI (H 5 i)
def RN (τ : Hp) (H : Cp) : Prop := τ 0 11 = nI (H 0 0) ∧ τ 0 14 = nI (H 0 1) ∧ (∀ i, i < 12 → τ 7 i = nI (H 1 i) ∧ τ 8 i = nI (H 2 i) ∧ τ 9 i = nI (H 3 i)) ∧ ∀ i, i < 7 → τ 10 i = nI (H 4 i) ∧ τ 11 i = nI (H 5 i)
def BH (n : Nat) (H : Cp) : Prop := H 0 0 ≤ 12 ∧ H 0 1 ≤ 7 ∧ (∀ i, i < 12 → H 1 i ≤ 3 ∧ H 2 i < 7 ∧ H 3 i < 7) ∧ (∀ i, i < 7 → H 4 i < 7 ∧ H 5 i ≤ 60) ∧ (∀ i, i < H 0 0 → H 2 i < n ∧ H 3 i < n ∧ (H 1 i < 2 → H 2 i ≠ H 3 i)) ∧ ∀ i, i < H 0 1 → H 4 i < n
def RP (σ τ : Hp) (pn : Nat) (P : Nat → Nat) : Prop := σ 31 0 = nI pn ∧ τ 0 16 = nI pn ∧ pn ≤ 60 ∧ ∀ i, i < 60 → σ 32 i = nI (P i) ∧ τ 12 i = nI (P i) ∧ P i ≤ 126
def RK (τ : Hp) (b : Nat) (C H : Cp) : Prop := τ 25 b = nI (C 0 0) ∧ τ 25 (b + 1) = nI (C 0 1) ∧ τ 25 (b + 2) = nI (H 0 0) ∧ τ 25 (b + 3) = nI (H 0 1) ∧ (∀ e, e < 7 → τ 25 (b + 4 + 8 * e) = nI (C 2 (e * 5)) ∧ τ 25 (b + 4 + 8 * e + 1) = nI (C 2 (e * 5 + 1)) ∧ τ 25 (b + 4 + 8 * e + 2) = nI (C 2 (e * 5 + 2)) ∧ τ 25 (b + 4 + 8 * e + 3) = nI (C 2 (e * 5 + 3)) ∧ τ 25 (b + 4 + 8 * e + 4) = nI (C 2 (e * 5 + 4)) ∧ τ 25 (b + 4 + 8 * e + 5) = nI (C 1 e) ∧ τ 25 (b + 4 + 8 * e + 6) = nI (H 4 e) ∧ τ 25 (b + 4 + 8 * e + 7) = nI (H 5 e)) ∧ ∀ k, k < 12 → τ 25 (b + 60 + 3 * k) = nI (H 1 k) ∧ τ 25 (b + 60 + 3 * k + 1) = nI (H 2 k) ∧ τ 25 (b + 60 + 3 * k + 2) = nI (H 3 k)
def RI (σ τ : Hp) (o k : Nat) : Prop := σ o 2 = τ 26 k ∧ (σ o 2 = nI 0 ∨ (σ o 2 = nI 1 ∧ ∃ C H : Cp, RC σ (o + 1) C ∧ RH σ (o + 4) H ∧ BC C ∧ BH (C 0 0) H ∧ RK τ (120 * k) C H))
def Rl (σ τ : Hp) : Prop := ∃ (C H : Cp) (pn : Nat) (P : Nat → Nat), RC σ 2 C ∧ RM τ C ∧ BC C ∧ RH σ 5 H ∧ RN τ H ∧ BH (C 0 0) H ∧ RP σ τ pn P ∧ RI σ τ 11 0 ∧ RI σ τ 21 1
theorem RC_fr {σ σ' : Hp} {o : Nat} {C : Cp} (h : RC σ o C) (e0 : σ' o = σ o) (e1 : σ' (o + 1) = σ (o + 1)) (e2 : σ' (o + 2) = σ (o + 2)) : RC σ' o C := by
  unfold RC at *; rw [e0, e1, e2]; exact h
theorem RH_fr {σ σ' : Hp} {o : Nat} {H : Cp} (h : RH σ o H) (e0 : σ' o = σ o) (e1 : σ' (o + 1) = σ (o + 1)) (e2 : σ' (o + 2) = σ (o + 2)) (e3 : σ' (o + 3) = σ (o + 3)) (e4 : σ' (o + 4) = σ (o + 4)) (e5 : σ' (o + 5) = σ (o + 5)) : RH σ' o H := by
  unfold RH at *; rw [e0, e1, e2, e3, e4, e5]; exact h
theorem RM_fr {τ τ' : Hp} {C : Cp} (h : RM τ C) (e0 : τ' 0 0 = τ 0 0) (e7 : τ' 0 7 = τ 0 7) (e6 : τ' 6 = τ 6) (e1 : τ' 1 = τ 1) (e2 : τ' 2 = τ 2) (e3 : τ' 3 = τ 3) (e4 : τ' 4 = τ 4) (e5 : τ' 5 = τ 5) : RM τ' C := by
  unfold RM at *; rw [e0, e7, e6, e1, e2, e3, e4, e5]; exact h
theorem RN_fr {τ τ' : Hp} {H : Cp} (h : RN τ H) (e0 : τ' 0 11 = τ 0 11) (e1 : τ' 0 14 = τ 0 14) (e7 : τ' 7 = τ 7) (e8 : τ' 8 = τ 8) (e9 : τ' 9 = τ 9) (e10 : τ' 10 = τ 10) (e11 : τ' 11 = τ 11) : RN τ' H := by
  unfold RN at *; rw [e0, e1, e7, e8, e9, e10, e11]; exact h
theorem RP_fr {σ σ' τ τ' : Hp} {pn : Nat} {P : Nat → Nat} (h : RP σ τ pn P) (e1 : σ' 31 = σ 31) (e2 : σ' 32 = σ 32) (e3 : τ' 0 16 = τ 0 16) (e4 : τ' 12 = τ 12) : RP σ' τ' pn P := by
  unfold RP at *; rw [e1, e2, e3, e4]; exact h
theorem RK_fr {τ τ' : Hp} {b : Nat} {C H : Cp} (h : RK τ b C H) (e : τ' 25 = τ 25) : RK τ' b C H := by
  unfold RK at *; rw [e]; exact h
theorem RI_fr {σ σ' τ τ' : Hp} {o k : Nat} (h : RI σ τ o k) (e : ∀ a, o ≤ a → a < o + 10 → σ' a = σ a) (e25 : τ' 25 = τ 25) (e26 : τ' 26 = τ 26) : RI σ' τ' o k := by
  obtain ⟨h1, h2⟩ := h
  refine ⟨by rw [e o (by omega) (by omega), e26]; exact h1, ?_⟩
  rw [e o (by omega) (by omega)]
  rcases h2 with h2 | ⟨h2, C, H, a, b, c, d, f⟩
  · exact Or.inl h2
  · exact Or.inr ⟨h2, C, H, RC_fr a (e _ (by omega) (by omega)) (e _ (by omega) (by omega)) (e _ (by omega) (by omega)), RH_fr b (e _ (by omega) (by omega)) (e _ (by omega) (by omega)) (e _ (by omega) (by omega)) (e _ (by omega) (by omega)) (e _ (by omega) (by omega)) (e _ (by omega) (by omega)), c, d, RK_fr f e25⟩
/-- what scratch work leaves alone -/
def XF (σ σ' : Hp) : Prop := ∀ a, a < 33 → σ' a = σ a
def MF (τ τ' : Hp) : Prop := (∀ a, 1 ≤ a → a ≤ 12 → τ' a = τ a) ∧ τ' 25 = τ 25 ∧ τ' 26 = τ 26 ∧ τ' 0 0 = τ 0 0 ∧ τ' 0 7 = τ 0 7 ∧ τ' 0 11 = τ 0 11 ∧ τ' 0 14 = τ 0 14 ∧ τ' 0 16 = τ 0 16
theorem XF_rf {σ : Hp} : XF σ σ := fun _ _ => rfl
theorem MF_rf {τ : Hp} : MF τ τ := ⟨fun _ _ _ => rfl, rfl, rfl, rfl, rfl, rfl, rfl, rfl⟩
theorem XF_tr {a b c : Hp} (h : XF a b) (g : XF b c) : XF a c := fun i hi => (g i hi).trans (h i hi)
theorem MF_tr {a b c : Hp} (h : MF a b) (g : MF b c) : MF a c := ⟨fun i h1 h2 => (g.1 i h1 h2).trans (h.1 i h1 h2), g.2.1.trans h.2.1, g.2.2.1.trans h.2.2.1, g.2.2.2.1.trans h.2.2.2.1, g.2.2.2.2.1.trans h.2.2.2.2.1, g.2.2.2.2.2.1.trans h.2.2.2.2.2.1, g.2.2.2.2.2.2.1.trans h.2.2.2.2.2.2.1, g.2.2.2.2.2.2.2.trans h.2.2.2.2.2.2.2⟩
theorem Rl_fr {σ σ' τ τ' : Hp} (h : Rl σ τ) (hx : XF σ σ') (hm : MF τ τ') : Rl σ' τ' := by
  obtain ⟨C, H, pn, P, h1, h2, h3, h4, h5, h6, h7, h8, h9⟩ := h
  obtain ⟨m1, m2, m3, m4, m5, m6, m7, m8⟩ := hm
  exact ⟨C, H, pn, P, RC_fr h1 (hx _ (by omega)) (hx _ (by omega)) (hx _ (by omega)), RM_fr h2 m4 m5 (m1 _ (by omega) (by omega)) (m1 _ (by omega) (by omega)) (m1 _ (by omega) (by omega)) (m1 _ (by omega) (by omega)) (m1 _ (by omega) (by omega)) (m1 _ (by omega) (by omega)), h3, RH_fr h4 (hx _ (by omega)) (hx _ (by omega)) (hx _ (by omega)) (hx _ (by omega)) (hx _ (by omega)) (hx _ (by omega)), RN_fr h5 m6 m7 (m1 _ (by omega) (by omega)) (m1 _ (by omega) (by omega)) (m1 _ (by omega) (by omega)) (m1 _ (by omega) (by omega)) (m1 _ (by omega) (by omega)), h6, RP_fr h7 (hx _ (by omega)) (hx _ (by omega)) m8 (m1 _ (by omega) (by omega)), RI_fr h8 (fun a _ _ => hx a (by omega)) m2 m3, RI_fr h9 (fun a _ _ => hx a (by omega)) m2 m3⟩
/-! small tests of arguments -/
def inR (p : Int32) (a b : Int) : Prop := a ≤ p.toInt ∧ p.toInt ≤ b
theorem isWithin_e (p a b : Int32) : t_X6_isWithin p a b = some (if p < a ∨ b < p then 0 else 1) := by
  unfold t_X6_isWithin t_X6_isWithin_14
  by_cases h1 : p < a
  · rw [if_pos h1, if_pos (Or.inl h1)]
  · by_cases h2 : b < p
    · rw [if_neg h1, if_pos h2, if_pos (Or.inr h2)]
    · rw [if_neg h1, if_neg h2, if_neg (fun h => h.elim h1 h2)]
theorem lg_lt (x y : Int64) : lg_cmp x y < 0 ↔ x < y := by
  have h := lg_cmp_ge x y
  rw [Int32.le_iff_toInt_le, Int64.le_iff_toInt_le] at h
  rw [Int32.lt_iff_toInt_lt, Int64.lt_iff_toInt_lt]
  omega
theorem lg_gt (x y : Int64) : 0 < lg_cmp x y ↔ y < x := by
  unfold lg_cmp
  by_cases h : x > y
  · rw [if_pos h]; exact ⟨fun _ => h, fun _ => by decide⟩
  · rw [if_neg h]
    by_cases h2 : x = y
    · rw [if_pos h2]; exact ⟨fun z => absurd z (by decide), fun z => absurd z h⟩
    · rw [if_neg h2]; exact ⟨fun z => absurd z (by decide), fun z => absurd z h⟩
theorem in_e (p a b : Int64) : t_X7_in p a b = some (if p < a ∨ b < p then 0 else 1) := by
  unfold t_X7_in t_X7_in_17
  by_cases h1 : p < a
  · rw [if_pos ((lg_lt p a).mpr h1), if_pos (Or.inl h1)]
  · rw [if_neg (fun h => h1 ((lg_lt p a).mp h))]
    by_cases h2 : b < p
    · rw [if_pos ((lg_gt p b).mpr h2), if_pos (Or.inr h2)]
    · rw [if_neg (fun h => h2 ((lg_gt p b).mp h)), if_neg (fun h => h.elim h1 h2)]
theorem wide_lt (p a : Int32) : (p.toInt64 < a.toInt64) = (p < a) := by
  rw [Int64.lt_iff_toInt_lt, Int32.lt_iff_toInt_lt, Int32.toInt_toInt64, Int32.toInt_toInt64]
/-- both tests of a range of ints are the same -/
theorem in_w (p a b : Int32) : t_X7_in p.toInt64 a.toInt64 b.toInt64 = some (if p < a ∨ b < p then 0 else 1) := by
  rw [in_e]; simp only [wide_lt]
