theorem has7 : ∀ b, b < 128 → ∀ e, e < 7 → (((nI b) >>> (nI e &&& 31)) &&& 1) = (if b.testBit e = true then nI 1 else nI 0) := by decide +kernel
theorem hasBit_7 {b e : Nat} (hb : b < 128) (he : e < 7) : t_X6_hasBit (nI b) (nI e) = some (if b.testBit e = true then nI 1 else nI 0) := by
  rw [hasBit_e, has7 b hb e he]
  by_cases h : b.testBit e = true
  · rw [if_pos h]; rfl
  · rw [if_neg h]; rfl
theorem if_ne {α : Type} {c : Prop} [Decidable c] {a b : α} : (if (if c then nI 1 else nI 0) = (0 : Int32) then a else b) = if c then b else a := by
  by_cases h : c
  · rw [if_pos h, if_pos h]; rfl
  · rw [if_neg h, if_neg h]; rfl
theorem if_e1 {α : Type} {c : Prop} [Decidable c] {a b : α} : (if (if c then nI 1 else nI 0) = (1 : Int32) then a else b) = if c then a else b := by
  by_cases h : c
  · rw [if_pos h, if_pos h]; rfl
  · rw [if_neg h, if_neg h]; rfl
theorem eq_nI {α : Type} {a b : Nat} {x y : α} (ha : a < 2 ^ 31) (hb : b < 2 ^ 31) : (if nI a = nI b then x else y) = if a = b then x else y := by simp only [nI_E ha hb]
theorem le_nI {α : Type} {a b : Nat} {x y : α} (ha : a < 2 ^ 31) (hb : b < 2 ^ 31) : (if nI a ≤ nI b then x else y) = if a ≤ b then x else y := by simp only [nI_G ha hb]
theorem lt_nI {α : Type} {a b : Nat} {x y : α} (ha : a < 2 ^ 31) (hb : b < 2 ^ 31) : (if nI a < nI b then x else y) = if a < b then x else y := by simp only [nI_L ha hb]
/-- an egg is warm enough, or its house is heated -/
def rdy (C : Cp) (h e : Nat) : Bool := decide (C 2 (e * 5) ≤ C 2 (e * 5 + 1)) || h.testBit (C 2 (e * 5 + 3))
/-- it goes on behind the places below p -/
def gs (C : Cp) (h : Nat) : Nat → Bool
  | 0 => true
  | p + 1 => gs C h p && (C 2 (C 1 p * 5 + 4) == 1 || (C 2 (C 1 p * 5 + 4) == 0 && rdy C h (C 1 p)))
def ht (C : Cp) (h p : Nat) : Bool := gs C h (p + 1) && C 2 (C 1 p * 5 + 4) == 0
def hbt (C : Cp) (h : Nat) : Nat → Nat
  | 0 => 0
  | p + 1 => if ht C h p = true then hbt C h p ||| 2 ^ C 1 p else hbt C h p
theorem hbt_lt {C : Cp} (b : BC C) (h : Nat) : ∀ p, p ≤ C 0 0 → hbt C h p < 128
  | 0, _ => by show 0 < 128; omega
  | p + 1, hp => by
    have h1 := hbt_lt b h p (by omega)
    have hb := b.1
    have h2 := b.2.2.2.2.1 p (by omega)
    unfold hbt
    split
    · exact (or_bit _ h1 _ h2).2
    · exact h1
theorem gs_off {C : Cp} {h p : Nat} (hg : gs C h p = false) : ∀ d, gs C h (p + d) = false
  | 0 => hg
  | d + 1 => by show (gs C h (p + d) && _) = false; rw [gs_off hg d]; rfl
theorem hbt_off {C : Cp} {h p : Nat} (hg : gs C h (p + 1) = false) : ∀ d, hbt C h (p + d) = hbt C h p
  | 0 => rfl
  | d + 1 => by
    show (if ht C h (p + d) = true then _ else _) = _
    have : ht C h (p + d) = false := by
      show (gs C h (p + d + 1) && _) = false
      rw [show p + d + 1 = p + 1 + d by omega, gs_off hg d]; rfl
    rw [this, if_neg (by decide)]; exact hbt_off hg d
theorem warm_e {σ : Hp} {o e : Nat} {C : Cp} (r : RC σ o C) (b : BC C) (he : e < 7) : t_X0_isWarmEnough o (nI e) σ = some (if C 2 (e * 5) ≤ C 2 (e * 5 + 1) then nI 1 else nI 0) := by
  have k := b.2.2.2.2.2 e he
  rw [isWarmEnough_in he, r.2.2.2 _ (by omega), r.2.2.2 _ (by omega), show e * 5 + 0 = e * 5 from rfl, lt_nI (by omega) (by omega)]
  by_cases h : C 2 (e * 5) ≤ C 2 (e * 5 + 1)
  · rw [if_pos h, if_neg (by omega)]
  · rw [if_neg h, if_pos (by omega)]
theorem hatchX_e {σ : Hp} {o N h : Nat} {C : Cp} (r : RC σ o C) (b : BC C) (hN : 7 < N) (hh : h < 128) : t_X0_hatchingIfHeated N o (nI h) σ = some (nI (hbt C h (C 0 0))) := by
  have hb := b.1
  have key : ∃ q, t_X0_hatchingIfHeated_4 N o N (nI h) 0 0 σ = some q ∧ q = nI (hbt C h (C 0 0)) := by
    unfold t_X0_hatchingIfHeated_4
    refine li4 _ (fun i v1 v2 v3 s => v1 = nI h ∧ v2 = nI (hbt C h i) ∧ v3 = nI i ∧ s = σ ∧ gs C h i = true) (fun q => q = nI (hbt C h (C 0 0))) (C 0 0) ?_ ?_ N (nI h) 0 0 σ (by omega) ⟨rfl, rfl, rfl, rfl, rfl⟩
    · intro i v1 v2 v3 s hi ⟨a1, a2, a3, a4, a5⟩
      subst a1; subst a2; subst a3; subst a4
      obtain ⟨e, he⟩ : ∃ e, e = C 1 i := ⟨_, rfl⟩
      have he7 : e < 7 := by rw [he]; exact b.2.2.2.2.1 i (by omega)
      obtain ⟨k0, k1, k2, k3, k4⟩ := b.2.2.2.2.2 e he7
      have hl := hbt_lt b h i (by omega)
      have ho := or_bit _ hl e he7
      have u1 : gs C h (i + 1) = (C 2 (e * 5 + 4) == 1 || (C 2 (e * 5 + 4) == 0 && rdy C h e)) := by rw [he]; show (gs C h i && _) = _; rw [a5]; rfl
      have u2 : hbt C h (i + 1) = if (gs C h (i + 1) && C 2 (e * 5 + 4) == 0) = true then hbt C h i ||| 2 ^ e else hbt C h i := by rw [he]; rfl
      have u3 : gs C h (i + 1) = false → hbt C h (C 0 0) = hbt C h i := fun hg => by
        have := hbt_off hg (C 0 0 - i)
        rwa [show i + (C 0 0 - i) = C 0 0 by omega] at this
      have fr : ∀ k : Int32 → Int32 → Int32 → Hp → Option Int32, (if (s o 0) ≤ nI i then some (nI (hbt C h i)) else Option.bind (t_X6_at (o + 1) 7 (nI i) s) (fun r4 : Int32 => Option.bind (t_X0_fact o r4 4 s) (fun r5 : Int32 => if r5 = 1 then t_X0_hatchingIfHeated_91 N o k (nI h) (nI (hbt C h i)) (nI i) s else Option.bind (t_X0_isWarmEnough o r4 s) (fun r6 : Int32 => if r6 = 0 then Option.bind (t_X0_fact o r4 3 s) (fun r7 : Int32 => Option.bind (t_X6_hasBit (nI h) r7) (fun r8 : Int32 => if r8 = 0 then t_X0_hatchingIfHeated_68 N o k (nI h) (nI (hbt C h i)) (nI i) r4 r5 0 s else t_X0_hatchingIfHeated_63 N o k (nI h) (nI (hbt C h i)) (nI i) r4 r5 s)) else t_X0_hatchingIfHeated_63 N o k (nI h) (nI (hbt C h i)) (nI i) r4 r5 s)))) = if C 2 (e * 5 + 4) = 1 then k (nI h) (nI (hbt C h i)) (nI (i + 1)) s else if C 2 (e * 5 + 4) = 0 ∧ rdy C h e = true then k (nI h) (nI (hbt C h i ||| 2 ^ e)) (nI (i + 1)) s else some (nI (hbt C h i)) := by
        intro k
        unfold t_X0_hatchingIfHeated_63 t_X0_hatchingIfHeated_68 t_X0_hatchingIfHeated_91
        rw [r.1, if_neg (nI_ge hi (by omega)), at_in (by omega) (by omega), r.2.2.1 i (by omega), ← he, bind_s, show (4 : Int32) = nI 4 from rfl, fact_in he7 (by omega), bind_s, r.2.2.2 _ (by omega), show (1 : Int32) = nI 1 from rfl, eq_nI (by omega) (by omega), warm_e r b he7, bind_s, if_ne, show (3 : Int32) = nI 3 from rfl, fact_in he7 (by omega), bind_s, r.2.2.2 _ (by omega), hasBit_7 hh (by omega), bind_s, if_ne, if_pos (show (0 : Int32) = 0 from rfl), if_neg (show ¬ nI 1 = (0 : Int32) by decide), bit_e, bind_s, bnd_e, bnd_e, bnd_e, ho.1, nI_add, show (2 : Int32) = nI 2 from rfl, eq_nI (by omega) (by omega)]
        by_cases h1 : C 2 (e * 5 + 4) = 1
        · rw [if_pos h1, if_pos h1]
        rw [if_neg h1, if_neg h1]
        unfold rdy
        by_cases hw : C 2 (e * 5) ≤ C 2 (e * 5 + 1)
        · rw [if_pos hw, decide_eq_true hw, Bool.true_or]
          by_cases h2 : C 2 (e * 5 + 4) = 2
          · rw [if_pos h2, if_neg (by omega)]
          · rw [if_neg h2, if_pos ⟨by omega, rfl⟩]
        · rw [if_neg hw, decide_eq_false hw, Bool.false_or]
          cases ht2 : h.testBit (C 2 (e * 5 + 3))
          · rw [if_neg (show ¬ (false = true) by decide), if_neg (show ¬ (C 2 (e * 5 + 4) = 0 ∧ false = true) from fun z => by simp at z)]
            split <;> rfl
          · rw [if_pos rfl]
            by_cases h2 : C 2 (e * 5 + 4) = 2
            · rw [if_pos h2, if_neg (by omega)]
            · rw [if_neg h2, if_pos ⟨by omega, rfl⟩]
      by_cases h1 : C 2 (e * 5 + 4) = 1
      · refine Or.inr ⟨nI h, nI (hbt C h (i + 1)), nI (i + 1), s, ⟨rfl, rfl, rfl, rfl, ?_⟩, fun k => (fr k).trans ?_⟩
        · rw [u1, h1]; rfl
        · rw [if_pos h1, u2, h1, show ((1 : Nat) == 0) = false from rfl, Bool.and_false, if_neg (by decide)]
      · by_cases h2 : C 2 (e * 5 + 4) = 0 ∧ rdy C h e = true
        · have g1 : gs C h (i + 1) = true := by rw [u1, h2.1, h2.2]; rfl
          refine Or.inr ⟨nI h, nI (hbt C h (i + 1)), nI (i + 1), s, ⟨rfl, rfl, rfl, rfl, g1⟩, fun k => (fr k).trans ?_⟩
          rw [if_neg h1, if_pos h2, u2, g1, h2.1]; rfl
        · have g1 : gs C h (i + 1) = false := by
            rw [u1]
            by_cases h3 : C 2 (e * 5 + 4) = 0
            · have : rdy C h e = false := by
                cases hr : rdy C h e
                · rfl
                · exact absurd ⟨h3, hr⟩ h2
              rw [h3, this]; rfl
            · simp [h1, h3]
          refine Or.inl ⟨nI (hbt C h i), (by rw [u3 g1]), fun k => (fr k).trans ?_⟩
          rw [if_neg h1, if_neg h2]
    · intro v1 v2 v3 s ⟨a1, a2, a3, a4, a5⟩
      subst a1; subst a2; subst a3; subst a4
      refine ⟨_, rfl, fun k => ?_⟩
      show (if s o 0 ≤ nI (C 0 0) then _ else _) = _
      rw [r.1, if_pos (nI_le (Nat.le_refl _) (by omega))]
  obtain ⟨q, q1, q2⟩ := key
  unfold t_X0_hatchingIfHeated
  rw [q1, q2]
/-! sums of worths: by eggs, by places -/
def wsum (C : Cp) (b w : Nat) : Nat → Nat
  | 0 => 0
  | m + 1 => wsum C b w m + if b.testBit m = true ∧ w.testBit (C 2 (m * 5 + 3)) = true then C 2 (m * 5 + 2) else 0
def psum (C : Cp) (h w : Nat) : Nat → Nat
  | 0 => 0
  | p + 1 => psum C h w p + if ht C h p = true ∧ w.testBit (C 2 (C 1 p * 5 + 3)) = true then C 2 (C 1 p * 5 + 2) else 0
theorem wsum_le {C : Cp} (b : BC C) (x w : Nat) : ∀ m, m ≤ 7 → wsum C x w m ≤ 99 * m
  | 0, _ => Nat.zero_le _
  | m + 1, hm => by
    have h1 := wsum_le b x w m (by omega)
    have h2 := (b.2.2.2.2.2 m (by omega)).2.2.1
    unfold wsum
    split <;> omega
theorem wsum_0 (C : Cp) (w : Nat) : ∀ m, wsum C 0 w m = 0
  | 0 => rfl
  | m + 1 => by unfold wsum; rw [wsum_0 C w m, Nat.zero_testBit, if_neg (by simp)]
theorem wsum_add {C : Cp} {x w e : Nat} (hx : x.testBit e = false) : ∀ m, wsum C (x ||| 2 ^ e) w m = wsum C x w m + if e < m ∧ w.testBit (C 2 (e * 5 + 3)) = true then C 2 (e * 5 + 2) else 0
  | 0 => by rw [if_neg (by omega)]; rfl
  | m + 1 => by
    unfold wsum
    rw [wsum_add hx m, Nat.testBit_or, Nat.testBit_two_pow]
    by_cases hme : e = m
    · subst hme
      rw [hx, if_neg (show ¬ (e < e ∧ _) by omega)]
      by_cases hw : w.testBit (C 2 (e * 5 + 3)) = true
      · rw [if_pos (by simp [hw]), if_neg (by simp), if_pos ⟨by omega, hw⟩]
      · rw [if_neg (by simp [hw]), if_neg (by simp), if_neg (fun z => hw z.2)]
    · have e1 : (decide (e = m)) = false := by simp [hme]
      rw [e1, Bool.or_false]
      by_cases hlt : e < m
      · by_cases hw : w.testBit (C 2 (e * 5 + 3)) = true
        · rw [if_pos (show e < m ∧ w.testBit (C 2 (e * 5 + 3)) = true from ⟨hlt, hw⟩), if_pos (show e < m + 1 ∧ w.testBit (C 2 (e * 5 + 3)) = true from ⟨by omega, hw⟩)]; omega
        · rw [if_neg (show ¬ (e < m ∧ w.testBit (C 2 (e * 5 + 3)) = true) from fun z => hw z.2), if_neg (show ¬ (e < m + 1 ∧ w.testBit (C 2 (e * 5 + 3)) = true) from fun z => hw z.2)]; omega
      · rw [if_neg (show ¬ (e < m ∧ w.testBit (C 2 (e * 5 + 3)) = true) from fun z => hlt z.1), if_neg (show ¬ (e < m + 1 ∧ w.testBit (C 2 (e * 5 + 3)) = true) from fun z => by omega)]; omega
theorem hbt_bit {C : Cp} (b : BC C) (h : Nat) : ∀ p, p ≤ C 0 0 → ∀ e, (hbt C h p).testBit e = true → ∃ q, q < p ∧ C 1 q = e
  | 0, _, e, he => by rw [show hbt C h 0 = 0 from rfl, Nat.zero_testBit] at he; cases he
  | p + 1, hp, e, he => by
    unfold hbt at he
    split at he
    · rw [Nat.testBit_or, Nat.testBit_two_pow] at he
      by_cases h2 : (hbt C h p).testBit e = true
      · obtain ⟨q, h3, h4⟩ := hbt_bit b h p (by omega) e h2
        exact ⟨q, by omega, h4⟩
      · exact ⟨p, by omega, by simpa [h2] using he⟩
    · obtain ⟨q, h3, h4⟩ := hbt_bit b h p (by omega) e he
      exact ⟨q, by omega, h4⟩
theorem wp_eq {C : Cp} (b : BC C) (h w : Nat) : ∀ p, p ≤ C 0 0 → wsum C (hbt C h p) w (C 0 0) = psum C h w p
  | 0, _ => wsum_0 C w _
  | p + 1, hp => by
    have ih := wp_eq b h w p (by omega)
    have h1 := b.2.2.1 p (by omega)
    have hx : (hbt C h p).testBit (C 1 p) = false := by
      cases hb : (hbt C h p).testBit (C 1 p)
      · rfl
      · obtain ⟨q, q1, q2⟩ := hbt_bit b h p (by omega) _ hb
        have := b.2.2.2.1 q p (by omega) (by omega) q2
        omega
    unfold hbt psum
    cases ht2 : ht C h p
    · rw [if_neg (by decide), ih, if_neg (show ¬ (false = true ∧ _) from fun z => by simp at z)]; rfl
    · rw [if_pos rfl, wsum_add hx, ih]
      by_cases hw : w.testBit (C 2 (C 1 p * 5 + 3)) = true
      · rw [if_pos ⟨h1, hw⟩, if_pos ⟨rfl, hw⟩]
      · rw [if_neg (fun z => hw z.2), if_neg (fun z => hw z.2)]
theorem psum_le {C : Cp} (b : BC C) (h w : Nat) {p : Nat} (hp : p ≤ C 0 0) : psum C h w p ≤ 700 := by
  have hb := b.1
  rw [← wp_eq b h w p hp]
  have := wsum_le b (hbt C h p) w (C 0 0) hb.2
  omega
theorem worthOf_e {σ : Hp} {o N x w : Nat} {C : Cp} (r : RC σ o C) (b : BC C) (hN : 7 < N) (hx : x < 128) (hw : w < 128) : t_X0_worthOf N o (nI x) (nI w) σ = some (nI (wsum C x w (C 0 0))) := by
  have hb := b.1
  unfold t_X0_worthOf t_X0_worthOf_5
  refine lr5 _ (fun _ => nI x) (fun _ => nI w) (fun i => nI (wsum C x w i)) (fun i => nI i) (fun _ => σ) (C 0 0) _ ?_ ?_ N (by omega)
  · intro i hi k
    have hi7 : i < 7 := by omega
    obtain ⟨k0, k1, k2, k3, k4⟩ := b.2.2.2.2.2 i hi7
    have hl := wsum_le b x w i (by omega)
    unfold t_X0_worthOf_47
    rw [r.1, if_neg (nI_ge hi (by omega)), hasBit_7 hx hi7, bind_s, if_ne, show (3 : Int32) = nI 3 from rfl, fact_in hi7 (by omega), bind_s, r.2.2.2 _ (by omega), hasBit_7 hw (by omega), bind_s, if_ne, show (2 : Int32) = nI 2 from rfl, fact_in hi7 (by omega), bind_s, r.2.2.2 _ (by omega), bnd_e, bnd_e, bnd_e, nI_add, nI_1]
    have u : wsum C x w (i + 1) = wsum C x w i + if x.testBit i = true ∧ w.testBit (C 2 (i * 5 + 3)) = true then C 2 (i * 5 + 2) else 0 := rfl
    rw [u]
    by_cases h1 : x.testBit i = true
    · rw [if_pos h1]
      by_cases h2 : w.testBit (C 2 (i * 5 + 3)) = true
      · rw [if_pos h2, if_pos ⟨h1, h2⟩]
      · rw [if_neg h2, if_neg (fun z => h2 z.2)]; rfl
    · rw [if_neg h1, if_neg (fun z => h1 z.1)]; rfl
  · intro k
    show (if σ o 0 ≤ nI (C 0 0) then _ else _) = _
    rw [r.1, if_pos (nI_le (Nat.le_refl _) (by omega))]
