/-- what the model's search of worths changes: its row of six -/
def GF (τ τ' : Hp) : Prop := ∀ a, a ≠ 24 → τ' a = τ a
theorem GF_MF {τ τ' : Hp} (h : GF τ τ') : MF τ τ' := ⟨fun a _ _ => h a (by omega), h 25 (by omega), h 26 (by omega), by rw [h 0 (by omega)], by rw [h 0 (by omega)], by rw [h 0 (by omega)], by rw [h 0 (by omega)], by rw [h 0 (by omega)]⟩
theorem GF_RM {τ τ' : Hp} {C : Cp} (h : GF τ τ') (r : RM τ C) : RM τ' C := RM_f r (fun a _ _ => h a (by omega)) (by rw [h 0 (by omega)]) (by rw [h 0 (by omega)])
theorem GF_tr {a b c : Hp} (h : GF a b) (g : GF b c) : GF a c := fun i hi => (g i hi).trans (h i hi)
theorem bI_0 {α : Type} {b : Bool} {x y : α} : (if bI b = (0 : Int32) then x else y) = if b = true then y else x := by cases b <;> rfl
theorem worthStep {τ : Hp} {N h i : Nat} {C : Cp} (r : RM τ C) (b : BC C) (hh : h < 128) (hi : i < C 0 0) (v2 : Int32) (k : Int32 → Int32 → Int32 → Int32 → Hp → Option (Int32 × Hp)) : ∀ e, e = C 1 i →
    (gi (nI i) 7 (bnd (τ 6 (nI i).toNatClampNeg) (fun x4 : Int32 => gi x4 7 (gi x4 7 (if (τ 1 x4.toNatClampNeg) ≤ (τ 2 x4.toNatClampNeg) then t_X7_findWorth_82 N k (nI h) v2 (nI i) x4 τ else gi x4 7 (if (((nI h) >>> ((τ 4 x4.toNatClampNeg) &&& 31)) &&& 1) = 1 then t_X7_findWorth_82 N k (nI h) v2 (nI i) x4 τ else t_X7_findWorth_87 N k (nI h) v2 (nI i) x4 0 τ)))))) = (if C 2 (e * 5 + 4) = 0 ∧ rdy C h e = true then k (nI h) (v2 + nI (C 2 (e * 5 + 2))) (nI 1) (nI (i + 1)) (hset τ 24 (C 2 (e * 5 + 3)) (τ 24 (C 2 (e * 5 + 3)) + nI (C 2 (e * 5 + 2)))) else k (nI h) v2 (bI (C 2 (e * 5 + 4) == 1)) (nI (i + 1)) τ) := by
  intro e he
  have hb := b.1
  have he7 : e < 7 := by rw [he]; exact b.2.2.2.2.1 i (by omega)
  obtain ⟨k0, k1, k2, k3, k4⟩ := b.2.2.2.2.2 e he7
  obtain ⟨d0, d1, d2, d3, d4⟩ := r.2.2.2 e he7
  have z0 : ∀ x : Int32, x + 0 = x := fun x => by rw [Int32.add_zero]
  unfold t_X7_findWorth_82 t_X7_findWorth_87 t_X7_findWorth_108 t_X7_findWorth_109 t_X7_findWorth_140 t_X7_findWorth_159 t_X7_findWorth_177 t_X7_findWorth_182
  rw [gi_in (by omega) (by omega), nI_clamp (by omega), r.2.2.1 i (by omega), ← he, bnd_e]
  simp only [gi_in (k := e) (n := 7) he7 (by omega), nI_clamp (n := e) (by omega), d0, d1, d2, d3, d4, bnd_e, gi_in (k := C 2 (e * 5 + 3)) (n := 6) k3 (by omega), nI_clamp (n := C 2 (e * 5 + 3)) (by omega), hs_o (σ := τ) (o := 24) (a := 5) (by decide), hs_o (σ := τ) (o := 24) (a := 3) (by decide), z0, hset_id, if_true]
  rw [le_nI (by omega) (by omega), has7 h hh _ (by omega), if_e1, show (1 : Int32) = nI 1 from rfl, nI_add, show (0 : Int32) = nI 0 from rfl, eq_nI (by omega) (by omega), eq_nI (a := 1) (b := 0) (by omega) (by omega), eq_nI (a := C 2 (e * 5 + 4)) (b := 1) (by omega) (by omega)]
  have n10 : ¬ nI 1 = nI 0 := by decide
  have n01 : ¬ nI 0 = nI 1 := by decide
  unfold rdy bI
  by_cases hz : C 2 (e * 5 + 4) = 0
  · simp only [hz]
    by_cases hw : C 2 (e * 5) ≤ C 2 (e * 5 + 1)
    · simp [hw, n10, n01]
    · cases hq : h.testBit (C 2 (e * 5 + 3)) <;> simp [hw, hq, n10, n01]
  · by_cases h1 : C 2 (e * 5 + 4) = 1
    · simp [h1, n10, n01]
    · simp [hz, h1, n10, n01]
theorem psum_63 {C : Cp} (b : BC C) (h : Nat) {p : Nat} (hp : p < C 0 0) : psum C h 63 (p + 1) = psum C h 63 p + if ht C h p = true then C 2 (C 1 p * 5 + 2) else 0 := by
  have hb := b.1
  have k := (b.2.2.2.2.2 (C 1 p) (b.2.2.2.2.1 p (by omega))).2.2.2.1
  have t : ∀ x, x < 6 → (63 : Nat).testBit x = true := by decide
  show psum C h 63 p + (if ht C h p = true ∧ (63 : Nat).testBit (C 2 (C 1 p * 5 + 3)) = true then _ else 0) = _
  rw [t _ k]
  cases ht C h p <;> simp
theorem psum_one {C : Cp} (h g p : Nat) : psum C h (2 ^ g) (p + 1) = psum C h (2 ^ g) p + if ht C h p = true ∧ C 2 (C 1 p * 5 + 3) = g then C 2 (C 1 p * 5 + 2) else 0 := by
  show psum C h (2 ^ g) p + (if ht C h p = true ∧ (2 ^ g).testBit (C 2 (C 1 p * 5 + 3)) = true then _ else 0) = _
  rw [Nat.testBit_two_pow]
  by_cases hg : g = C 2 (C 1 p * 5 + 3)
  · rw [decide_eq_true hg]; simp [hg]
  · rw [decide_eq_false hg]
    rw [if_neg (fun z => by simp at z), if_neg (fun z => hg z.2.symm)]
theorem psum_off {C : Cp} {h w p : Nat} (hg : gs C h p = false) : ∀ d, psum C h w (p + d) = psum C h w p
  | 0 => rfl
  | d + 1 => by
    show psum C h w (p + d) + (if ht C h (p + d) = true ∧ w.testBit (C 2 (C 1 (p + d) * 5 + 3)) = true then C 2 (C 1 (p + d) * 5 + 2) else 0) = _
    have : ht C h (p + d) = false := by
      show (gs C h (p + d + 1) && _) = false
      rw [show p + d + 1 = p + (d + 1) by omega, gs_off hg (d + 1)]; rfl
    rw [this, if_neg (fun z => by simp at z), psum_off hg d]; rfl
theorem findWorth_e {τ : Hp} {N h : Nat} {C : Cp} (r : RM τ C) (b : BC C) (hN : 7 < N) (hh : h < 128) : ∃ τ', t_X7_findWorth N (nI h) τ = some (nI (psum C h 63 (C 0 0)), τ') ∧ GF τ τ' ∧ ∀ g, g < 6 → τ' 24 g = nI (psum C h (2 ^ g) (C 0 0)) := by
  have hb := b.1
  have key : ∃ q : Int32 × Hp, t_X7_findWorth N (nI h) τ = some q ∧ (q.1 = nI (psum C h 63 (C 0 0)) ∧ GF τ q.2 ∧ ∀ g, g < 6 → q.2 24 g = nI (psum C h (2 ^ g) (C 0 0))) := by
    unfold t_X7_findWorth t_X7_findWorth_2
    refine li3 _ (fun i v1 v2 s => v1 = nI h ∧ v2 = nI i ∧ GF τ s ∧ ∀ g, g < i → s 24 g = nI 0) _ 6 ?_ ?_ N (nI h) 0 τ (by omega) ⟨rfl, rfl, fun _ _ => rfl, fun g hg => absurd hg (Nat.not_lt_zero g)⟩
    · intro i v1 v2 s hi ⟨a1, a2, a3, a4⟩
      subst a1; subst a2
      refine Or.inr ⟨nI h, nI (i + 1), hset s 24 i (nI 0), ⟨rfl, rfl, fun a ha => by rw [hs_o ha]; exact a3 a ha, fun g hg => ?_⟩, fun k => ?_⟩
      · by_cases hgi : g = i
        · subst hgi; exact hs_eq
        · rw [hs_k hgi]; exact a4 g (by omega)
      · show (if (6 : Int32) ≤ nI i then _ else _) = _
        rw [if_neg (show ¬ (6 : Int32) ≤ nI i from nI_ge (a := i) (b := 6) hi (by omega)), gi_in hi (by omega), nI_clamp (by omega), bnd_e, bnd_e, nI_1]; rfl
    · intro v1 v2 s ⟨a1, a2, a3, a4⟩
      subst a1; subst a2
      have rs := GF_RM a3 r
      have key2 : ∃ q : Int32 × Hp, t_X7_findWorth_28 N N (nI h) 0 1 0 s = some q ∧ (q.1 = nI (psum C h 63 (C 0 0)) ∧ GF τ q.2 ∧ ∀ g, g < 6 → q.2 24 g = nI (psum C h (2 ^ g) (C 0 0))) := by
        unfold t_X7_findWorth_28
        refine li5 _ (fun i v1 v2 v3 v4 s => v1 = nI h ∧ v2 = nI (psum C h 63 i) ∧ v3 = bI (gs C h i) ∧ v4 = nI i ∧ GF τ s ∧ ∀ g, g < 6 → s 24 g = nI (psum C h (2 ^ g) i)) _ (C 0 0) ?_ ?_ N (nI h) 0 1 0 s (by omega) ⟨rfl, rfl, rfl, rfl, a3, a4⟩
        · intro i v1 v2 v3 v4 s hi ⟨a1, a2, a3, a4, a5, a6⟩
          subst a1; subst a2; subst a3; subst a4
          have rs := GF_RM a5 r
          obtain ⟨e, he⟩ : ∃ e, e = C 1 i := ⟨_, rfl⟩
          have he7 : e < 7 := by rw [he]; exact b.2.2.2.2.1 i (by omega)
          obtain ⟨k0, k1, k2, k3, k4⟩ := b.2.2.2.2.2 e he7
          cases hg : gs C h i
          · refine Or.inl ⟨(nI (psum C h 63 i), s), ⟨?_, a5, fun g hg6 => ?_⟩, fun k => ?_⟩
            · have := psum_off (w := 63) hg (C 0 0 - i)
              rw [show i + (C 0 0 - i) = C 0 0 by omega] at this
              rw [this]
            · have := psum_off (w := 2 ^ g) hg (C 0 0 - i)
              rw [show i + (C 0 0 - i) = C 0 0 by omega] at this
              rw [this]; exact a6 g hg6
            · rw [rs.1, if_neg (nI_ge hi (by omega)), bI_0, if_neg (by decide)]
          · have st := fun k => worthStep (N := N) rs b hh hi (nI (psum C h 63 i)) k e he
            have u1 : gs C h (i + 1) = (C 2 (e * 5 + 4) == 1 || (C 2 (e * 5 + 4) == 0 && rdy C h e)) := by rw [he]; show (gs C h i && _) = _; rw [hg]; rfl
            have u0 : ht C h i = (gs C h (i + 1) && C 2 (e * 5 + 4) == 0) := by rw [he]; rfl
            have u2 := psum_63 b h hi
            rw [← he, u0] at u2
            have u3 : ∀ g, psum C h (2 ^ g) (i + 1) = psum C h (2 ^ g) i + if (gs C h (i + 1) && C 2 (e * 5 + 4) == 0) = true ∧ C 2 (e * 5 + 3) = g then C 2 (e * 5 + 2) else 0 := fun g => by rw [psum_one, u0, ← he]
            by_cases hz : C 2 (e * 5 + 4) = 0 ∧ rdy C h e = true
            · have g1 : gs C h (i + 1) = true := by rw [u1, hz.1, hz.2]; rfl
              refine Or.inr ⟨nI h, nI (psum C h 63 (i + 1)), bI (gs C h (i + 1)), nI (i + 1), hset s 24 (C 2 (e * 5 + 3)) (s 24 (C 2 (e * 5 + 3)) + nI (C 2 (e * 5 + 2))), ⟨rfl, rfl, rfl, rfl, fun a ha => by rw [hs_o ha]; exact a5 a ha, fun g hg6 => ?_⟩, fun k => ?_⟩
              · rw [u3, g1, hz.1]
                by_cases hg2 : C 2 (e * 5 + 3) = g
                · subst hg2; rw [hs_eq, a6 _ hg6, nI_add]; simp
                · rw [hs_k (Ne.symm hg2), a6 g hg6]; simp [hg2]
              · show (if s 0 0 ≤ nI i then _ else (if bI true = 0 then _ else _)) = _
                rw [rs.1, if_neg (nI_ge hi (by omega)), bI_0, if_pos rfl]
                refine (st k).trans ?_
                rw [if_pos hz, u2, g1, hz.1, nI_add]; rfl
            · have g1 : gs C h (i + 1) = (C 2 (e * 5 + 4) == 1) := by
                rw [u1]
                by_cases h3 : C 2 (e * 5 + 4) = 0
                · have : rdy C h e = false := by
                    cases hr : rdy C h e
                    · rfl
                    · exact absurd ⟨h3, hr⟩ hz
                  rw [h3, this]; rfl
                · simp [h3]
              have g2 : (gs C h (i + 1) && C 2 (e * 5 + 4) == 0) = false := by
                rw [g1]
                by_cases h3 : C 2 (e * 5 + 4) = 0
                · rw [h3]; rfl
                · simp [h3]
              refine Or.inr ⟨nI h, nI (psum C h 63 (i + 1)), bI (gs C h (i + 1)), nI (i + 1), s, ⟨rfl, rfl, rfl, rfl, a5, fun g hg6 => ?_⟩, fun k => ?_⟩
              · rw [u3, g2, if_neg (fun z => by simp at z)]; exact a6 g hg6
              · show (if s 0 0 ≤ nI i then _ else (if bI true = 0 then _ else _)) = _
                rw [rs.1, if_neg (nI_ge hi (by omega)), bI_0, if_pos rfl]
                refine (st k).trans ?_
                rw [if_neg hz, u2, g2, g1, if_neg (show ¬ (false = true) by decide)]; rfl
        · intro v1 v2 v3 v4 s ⟨a1, a2, a3, a4, a5, a6⟩
          subst a1; subst a2; subst a3; subst a4
          refine ⟨(nI (psum C h 63 (C 0 0)), s), ⟨rfl, a5, a6⟩, fun k => ?_⟩
          show (if s 0 0 ≤ nI (C 0 0) then _ else _) = _
          rw [(GF_RM a5 r).1, if_pos (nI_le (Nat.le_refl _) (by omega))]
      obtain ⟨q, q1, q2⟩ := key2
      exact ⟨q, q2, fun k => q1⟩
  obtain ⟨⟨q, s⟩, q1, q2, q3, q4⟩ := key
  exact ⟨s, by rw [q1]; exact congrArg (fun z => some (z, s)) q2, q3, q4⟩
