def gn (C : Cp) (h g c : Nat) : Int32 := if h.testBit g = true then nI (psum C h (2 ^ g) (C 0 0)) - nI c else nI (psum C h (2 ^ g) (C 0 0))
theorem pw6 : ∀ g, g < 6 → 2 ^ g < 128 ∧ ((1 : Int32) <<< (nI g &&& 31)) = nI (2 ^ g) := by decide +kernel
theorem xr6 : ∀ h, h < 64 → ∀ g, g < 6 → nI h ^^^ nI (2 ^ g) = nI (h ^^^ 2 ^ g) ∧ (h ^^^ 2 ^ g) < 64 := by decide +kernel
theorem gainX_e {σ : Hp} {N h g c : Nat} {C : Cp} (r : RC σ 2 C) (b : BC C) (hN : 7 < N) (hh : h < 64) (hg : g < 6) : t_X6_gainOf N (nI g) (nI h) (nI c) σ = some (gn C h g c) := by
  have hp := pw6 g hg
  unfold t_X6_gainOf
  rw [hatchX_e r b hN (by omega), bind_s, bit_e, bind_s, hp.2, worthOf_e r b hN (hbt_lt b h _ (Nat.le_refl _)) hp.1, bind_s, hasBit_7 (by omega) (by omega), bind_s, if_ne, wp_eq b h (2 ^ g) _ (Nat.le_refl _)]
  unfold gn
  split <;> rfl
theorem gainM_e {τ : Hp} {N h g c : Nat} {C : Cp} (r : RM τ C) (b : BC C) (hN : 7 < N) (hh : h < 64) (hg : g < 6) : ∃ τ', t_X7_gainOf N (nI g) (nI h) (nI c) τ = some (gn C h g c, τ') ∧ GF τ τ' := by
  obtain ⟨τ', e1, e2, e3⟩ := findWorth_e (h := h) r b hN (by omega)
  refine ⟨τ', ?_, e2⟩
  unfold t_X7_gainOf
  rw [e1, b2_s, gi_in hg (by omega), nI_clamp (by omega), e3 g hg, has7 h (by omega) g (by omega), if_e1, Int32.sub_zero]
  unfold gn
  split <;> rfl
/-- no house below i does better by doing otherwise alone -/
def rok (C : Cp) (f h c : Nat) : Nat → Bool
  | 0 => true
  | i + 1 => rok C f h c i && (!f.testBit i || decide (gn C (h ^^^ 2 ^ i) i c ≤ gn C h i c))
theorem rok_off {C : Cp} {f h c i : Nat} (hr : rok C f h c i = false) : ∀ d, rok C f h c (i + d) = false
  | 0 => hr
  | d + 1 => by show (rok C f h c (i + d) && _) = false; rw [rok_off hr d]; rfl
theorem isRestX_e {σ : Hp} {N f h c : Nat} {C : Cp} (r : RC σ 2 C) (b : BC C) (hN : 7 < N) (hh : h < 64) (hf : f < 64) : t_X6_isRest N (nI h) (nI f) (nI c) σ = some (bI (rok C f h c 6)) := by
  have key : ∃ q, t_X6_isRest_3 N N (nI h) (nI f) (nI c) 0 σ = some q ∧ q = bI (rok C f h c 6) := by
    unfold t_X6_isRest_3
    refine li5 _ (fun i v1 v2 v3 v4 s => v1 = nI h ∧ v2 = nI f ∧ v3 = nI c ∧ v4 = nI i ∧ s = σ ∧ rok C f h c i = true) _ 6 ?_ ?_ N (nI h) (nI f) (nI c) 0 σ (by omega) ⟨rfl, rfl, rfl, rfl, rfl, rfl⟩
    · intro i v1 v2 v3 v4 s hi ⟨a1, a2, a3, a4, a5, a6⟩
      subst a1; subst a2; subst a3; subst a4; subst a5
      have hx := xr6 h hh i hi
      have hp := pw6 i hi
      have u : rok C f h c (i + 1) = (!f.testBit i || decide (gn C (h ^^^ 2 ^ i) i c ≤ gn C h i c)) := by show (rok C f h c i && _) = _; rw [a6]; rfl
      have fr : ∀ k : Int32 → Int32 → Int32 → Int32 → Hp → Option Int32, (if (6 : Int32) ≤ nI i then some 1 else Option.bind (t_X6_hasBit (nI f) (nI i)) (fun r2 : Int32 => if r2 = 0 then t_X6_isRest_53 N k (nI h) (nI f) (nI c) (nI i) s else Option.bind (t_X6_bit (nI i)) (fun r3 : Int32 => bnd ((nI h) ^^^ r3) (fun x4 : Int32 => Option.bind (t_X6_gainOf N (nI i) x4 (nI c) s) (fun r5 : Int32 => Option.bind (t_X6_gainOf N (nI i) (nI h) (nI c) s) (fun r6 : Int32 => if r5 ≤ r6 then t_X6_isRest_53 N k (nI h) (nI f) (nI c) (nI i) s else some 0)))))) = if rok C f h c (i + 1) = true then k (nI h) (nI f) (nI c) (nI (i + 1)) s else some 0 := by
        intro k
        unfold t_X6_isRest_53
        rw [if_neg (show ¬ (6 : Int32) ≤ nI i from nI_ge (a := i) (b := 6) hi (by omega)), hasBit_7 (by omega) (by omega), bind_s, if_ne, bit_e, bind_s, bnd_e, bnd_e, hp.2, hx.1, gainX_e r b hN hx.2 hi, bind_s, gainX_e r b hN hh hi, bind_s, nI_1, u]
        cases hq : f.testBit i
        · simp
        · by_cases hg : gn C (h ^^^ 2 ^ i) i c ≤ gn C h i c
          · simp [hg]
          · simp [hg]
      cases hr : rok C f h c (i + 1)
      · refine Or.inl ⟨0, ?_, fun k => (fr k).trans (by rw [hr, if_neg (by decide)])⟩
        have := rok_off hr (6 - (i + 1))
        rw [show i + 1 + (6 - (i + 1)) = 6 by omega] at this
        rw [this]; rfl
      · exact Or.inr ⟨nI h, nI f, nI c, nI (i + 1), s, ⟨rfl, rfl, rfl, rfl, rfl, rfl⟩, fun k => (fr k).trans (by rw [hr, if_pos rfl])⟩
    · intro v1 v2 v3 v4 s ⟨a1, a2, a3, a4, a5, a6⟩
      subst a4
      refine ⟨1, by rw [a6]; rfl, fun k => ?_⟩
      exact if_pos (by decide)
  obtain ⟨q, q1, q2⟩ := key
  unfold t_X6_isRest
  rw [q1, q2]
theorem isRestM_e {τ : Hp} {N f h c : Nat} {C : Cp} (r : RM τ C) (b : BC C) (hN : 7 < N) (hh : h < 64) (hf : f < 64) : ∃ τ', t_X7_isRest N (nI h) (nI f) (nI c) τ = some (bI (rok C f h c 6), τ') ∧ GF τ τ' := by
  have key : ∃ q : Int32 × Hp, t_X7_isRest_6 N N (nI h) (nI f) (nI c) 1 0 τ = some q ∧ (q.1 = bI (rok C f h c 6) ∧ GF τ q.2) := by
    unfold t_X7_isRest_6
    refine li6 _ (fun i v1 v2 v3 v4 v5 s => v1 = nI h ∧ v2 = nI f ∧ v3 = nI c ∧ v4 = bI (rok C f h c i) ∧ v5 = nI i ∧ GF τ s) _ 6 ?_ ?_ N (nI h) (nI f) (nI c) 1 0 τ (by omega) ⟨rfl, rfl, rfl, rfl, rfl, fun _ _ => rfl⟩
    · intro i v1 v2 v3 v4 v5 s hi ⟨a1, a2, a3, a4, a5, a6⟩
      subst a1; subst a2; subst a3; subst a4; subst a5
      have hx := xr6 h hh i hi
      have hp := pw6 i hi
      have rs := GF_RM a6 r
      have u : rok C f h c (i + 1) = (rok C f h c i && (!f.testBit i || decide (gn C (h ^^^ 2 ^ i) i c ≤ gn C h i c))) := rfl
      have c6 : ¬ (6 : Int32) ≤ nI i := nI_ge (a := i) (b := 6) hi (by omega)
      have hb6 := has7 f (by omega) i (by omega)
      cases hq : f.testBit i
      · refine Or.inr ⟨nI h, nI f, nI c, bI (rok C f h c (i + 1)), nI (i + 1), s, ⟨rfl, rfl, rfl, rfl, rfl, a6⟩, fun k => ?_⟩
        show (if (6 : Int32) ≤ nI i then _ else (if ((nI f >>> (nI i &&& 31)) &&& 1) = 1 then _ else t_X7_isRest_59 N k (nI h) (nI f) (nI c) (bI (rok C f h c i)) (nI i) s)) = _
        unfold t_X7_isRest_59
        rw [if_neg c6, hb6, if_e1, hq, if_neg (by decide), bnd_e, nI_1, u, hq]; simp
      · cases hk : rok C f h c i
        · refine Or.inr ⟨nI h, nI f, nI c, bI (rok C f h c (i + 1)), nI (i + 1), s, ⟨rfl, rfl, rfl, rfl, rfl, a6⟩, fun k => ?_⟩
          show (if (6 : Int32) ≤ nI i then _ else (if ((nI f >>> (nI i &&& 31)) &&& 1) = 1 then (if bI false = 0 then t_X7_isRest_56 N k (nI h) (nI f) (nI c) (nI i) s else _) else _)) = _
          unfold t_X7_isRest_56 t_X7_isRest_57 t_X7_isRest_59
          rw [if_neg c6, hb6, if_e1, hq, if_pos rfl, bI_0, if_neg (by decide), bnd_e, nI_1, u, hk]; rfl
        · obtain ⟨s1, e1, f1⟩ := gainM_e (c := c) rs b hN hx.2 hi
          obtain ⟨s2, e2, f2⟩ := gainM_e (c := c) (GF_RM f1 rs) b hN hh hi
          refine Or.inr ⟨nI h, nI f, nI c, bI (rok C f h c (i + 1)), nI (i + 1), s2, ⟨rfl, rfl, rfl, rfl, rfl, GF_tr a6 (GF_tr f1 f2)⟩, fun k => ?_⟩
          show (if (6 : Int32) ≤ nI i then _ else (if ((nI f >>> (nI i &&& 31)) &&& 1) = 1 then (if bI true = 0 then _ else b2 (t_X7_gainOf N (nI i) ((nI h) ^^^ (1 <<< (nI i &&& 31))) (nI c) s) (fun (r2 : Int32) (σ3 : Hp) => b2 (t_X7_gainOf N (nI i) (nI h) (nI c) σ3) (fun (r4 : Int32) (σ5 : Hp) => if r4 < r2 then t_X7_isRest_56 N k (nI h) (nI f) (nI c) (nI i) σ5 else t_X7_isRest_57 N k (nI h) (nI f) (nI c) (nI i) 1 σ5))) else _)) = _
          unfold t_X7_isRest_56 t_X7_isRest_57 t_X7_isRest_59
          rw [if_neg c6, hb6, if_e1, hq, if_pos rfl, bI_0, if_pos rfl, hp.2, hx.1, e1, b2_s, e2, b2_s, bnd_e, bnd_e, nI_1, u, hk, hq]
          by_cases hg : gn C (h ^^^ 2 ^ i) i c ≤ gn C h i c
          · have hg2 : ¬ gn C h i c < gn C (h ^^^ 2 ^ i) i c := fun z => by rw [Int32.le_iff_toInt_le] at hg; rw [Int32.lt_iff_toInt_lt] at z; omega
            rw [if_neg hg2, decide_eq_true hg]; rfl
          · have hg2 : gn C h i c < gn C (h ^^^ 2 ^ i) i c := by rw [Int32.le_iff_toInt_le] at hg; rw [Int32.lt_iff_toInt_lt]; omega
            rw [if_pos hg2, decide_eq_false hg]; rfl
    · intro v1 v2 v3 v4 v5 s ⟨a1, a2, a3, a4, a5, a6⟩
      subst a4; subst a5
      refine ⟨(bI (rok C f h c 6), s), ⟨rfl, a6⟩, fun k => ?_⟩
      refine (if_pos (show (6 : Int32) ≤ nI 6 by decide)).trans ?_
      cases rok C f h c 6 <;> rfl
  obtain ⟨⟨q, s⟩, q1, q2, q3⟩ := key
  exact ⟨s, by unfold t_X7_isRest; rw [q1]; exact congrArg (fun z => some (z, s)) q2, q3⟩
def frH (C : Cp) : Nat → Nat
  | 0 => 0
  | i + 1 => if C 2 (i * 5 + 4) = 0 then frH C i ||| 2 ^ C 2 (i * 5 + 3) else frH C i
theorem or6 : ∀ b, b < 64 → ∀ e, e < 6 → (nI b ||| ((1 : Int32) <<< (nI e &&& 31))) = nI (b ||| 2 ^ e) ∧ (b ||| 2 ^ e) < 64 := by decide +kernel
theorem frH_lt {C : Cp} (b : BC C) : ∀ i, i ≤ 7 → frH C i < 64
  | 0, _ => by show 0 < 64; omega
  | i + 1, hi => by
    have h1 := frH_lt b i (by omega)
    have h2 := (b.2.2.2.2.2 i (by omega)).2.2.2.1
    unfold frH
    split
    · exact (or6 _ h1 _ h2).2
    · exact h1
theorem frX_e {σ : Hp} {N o : Nat} {C : Cp} (r : RC σ o C) (b : BC C) (hN : 7 < N) : t_X0_housesOfWhole N o σ = some (nI (frH C (C 0 0))) := by
  have hb := b.1
  unfold t_X0_housesOfWhole t_X0_housesOfWhole_4
  refine lr3 _ (fun i => nI (frH C i)) (fun i => nI i) (fun _ => σ) (C 0 0) _ ?_ ?_ N (by omega)
  · intro i hi k
    have hi7 : i < 7 := by omega
    obtain ⟨k0, k1, k2, k3, k4⟩ := b.2.2.2.2.2 i hi7
    have ho := or6 _ (frH_lt b i (by omega)) _ k3
    unfold t_X0_housesOfWhole_32
    rw [r.1, if_neg (nI_ge hi (by omega)), isWhole_in hi7, bind_s, r.2.2.2 _ (by omega), eq_nI (by omega) (by omega), if_ne, show (3 : Int32) = nI 3 from rfl, fact_in hi7 (by omega), bind_s, r.2.2.2 _ (by omega), bit_e, bind_s, bnd_e, bnd_e, bnd_e, ho.1, nI_1]
    show _ = k (nI (if C 2 (i * 5 + 4) = 0 then _ else _)) _ _
    split <;> rfl
  · intro k
    show (if σ o 0 ≤ nI (C 0 0) then _ else _) = _
    rw [r.1, if_pos (nI_le (Nat.le_refl _) (by omega))]
theorem frM_e {τ : Hp} {N : Nat} {C : Cp} (r : RM τ C) (b : BC C) (hN : 7 < N) : t_X7_housesWithWhole N τ = some (nI (frH C (C 0 0))) := by
  have hb := b.1
  unfold t_X7_housesWithWhole t_X7_housesWithWhole_4
  refine lr3 _ (fun i => nI (frH C i)) (fun i => nI i) (fun _ => τ) (C 0 0) _ ?_ ?_ N (by omega)
  · intro i hi k
    have hi7 : i < 7 := by omega
    obtain ⟨d0, d1, d2, d3, d4⟩ := r.2.2.2 i hi7
    obtain ⟨k0, k1, k2, k3, k4⟩ := b.2.2.2.2.2 i hi7
    have ho := or6 _ (frH_lt b i (by omega)) _ k3
    unfold t_X7_housesWithWhole_34
    rw [r.1, if_neg (nI_ge hi (by omega)), gi_in hi7 (by omega), gi_in hi7 (by omega), nI_clamp (by omega), d4, d3, ho.1, bnd_e, bnd_e, bnd_e, bnd_e, or_z, nI_1, show (0 : Int32) = nI 0 from rfl, eq_nI (by omega) (by omega)]
    show _ = k (nI (if C 2 (i * 5 + 4) = 0 then _ else _)) _ _
    split <;> rfl
  · intro k
    show (if τ 0 0 ≤ nI (C 0 0) then _ else _) = _
    rw [r.1, if_pos (nI_le (Nat.le_refl _) (by omega))]
/-- sets are tried from 64 - d on, with cnt rests found -/
def rsS (C : Cp) (f c : Nat) (p : Int32) : Nat → Nat → Int32
  | 0, cnt => if p = (-1) then nI cnt else (-6)
  | d + 1, cnt => if (nI (63 - d) &&& (nI f ^^^ (-1))) = 0 then (if rok C f (63 - d) c 6 = true then (if nI cnt = p then nI (63 - d) else rsS C f c p d (cnt + 1)) else rsS C f c p d cnt) else rsS C f c p d cnt
theorem restsX_e {σ : Hp} {N f c : Nat} {C : Cp} (r : RC σ 2 C) (b : BC C) (hN : 64 < N) (hf : f < 64) (p : Int32) : t_X6_rests_30 N N (nI c) p (nI f) 0 0 σ = some (rsS C f c p 64 0) := by
  have key : ∃ q, t_X6_rests_30 N N (nI c) p (nI f) 0 0 σ = some q ∧ q = rsS C f c p 64 0 := by
    unfold t_X6_rests_30
    refine li6 _ (fun i v1 v2 v3 v4 v5 s => v1 = nI c ∧ v2 = p ∧ v3 = nI f ∧ v5 = nI i ∧ s = σ ∧ ∃ cnt, v4 = nI cnt ∧ rsS C f c p (64 - i) cnt = rsS C f c p 64 0) _ 64 ?_ ?_ N (nI c) p (nI f) 0 0 σ (by omega) ⟨rfl, rfl, rfl, rfl, rfl, 0, rfl, rfl⟩
    · intro i v1 v2 v3 v4 v5 s hi ⟨a1, a2, a3, a4, a5, cnt, a6, a7⟩
      subst a1; subst a2; subst a3; subst a4; subst a5; subst a6
      have u : rsS C f c v2 (64 - i) cnt = if (nI i &&& (nI f ^^^ (-1))) = 0 then (if rok C f i c 6 = true then (if nI cnt = v2 then nI i else rsS C f c v2 (64 - (i + 1)) (cnt + 1)) else rsS C f c v2 (64 - (i + 1)) cnt) else rsS C f c v2 (64 - (i + 1)) cnt := by
        rw [show 64 - i = (63 - i) + 1 by omega, show 64 - (i + 1) = 63 - i by omega]
        show (if (nI (63 - (63 - i)) &&& _) = 0 then _ else _) = _
        rw [show 63 - (63 - i) = i by omega]
      have c64 : ¬ (64 : Int32) ≤ nI i := nI_ge (a := i) (b := 64) hi (by omega)
      have fr : ∀ k : Int32 → Int32 → Int32 → Int32 → Int32 → Hp → Option Int32, (if (64 : Int32) ≤ nI i then if v2 = (-1) then some (nI cnt) else some (-6) else if ((nI i) &&& ((nI f) ^^^ (-1))) = 0 then Option.bind (t_X6_isRest N (nI i) (nI f) (nI c) s) (fun r2 : Int32 => if r2 = 0 then t_X6_rests_72 N k (nI c) v2 (nI f) (nI cnt) (nI i) s else if (nI cnt) = v2 then some (nI i) else bnd ((nI cnt) + 1) (fun x3 : Int32 => t_X6_rests_72 N k (nI c) v2 (nI f) x3 (nI i) s)) else t_X6_rests_72 N k (nI c) v2 (nI f) (nI cnt) (nI i) s) = if ((nI i) &&& ((nI f) ^^^ (-1))) = 0 then (if rok C f i c 6 = true then (if (nI cnt) = v2 then some (nI i) else k (nI c) v2 (nI f) (nI (cnt + 1)) (nI (i + 1)) s) else k (nI c) v2 (nI f) (nI cnt) (nI (i + 1)) s) else k (nI c) v2 (nI f) (nI cnt) (nI (i + 1)) s := by
        intro k
        unfold t_X6_rests_72
        rw [if_neg c64, isRestX_e r b (by omega) hi hf, bind_s, bI_0, bnd_e, bnd_e, bnd_e, nI_1, nI_1]
      by_cases q1 : (nI i &&& (nI f ^^^ (-1))) = 0
      · rw [if_pos q1] at u
        by_cases q2 : rok C f i c 6 = true
        · rw [if_pos q2] at u
          by_cases q3 : nI cnt = v2
          · rw [if_pos q3] at u
            exact Or.inl ⟨nI i, u.symm.trans a7, fun k => (fr k).trans (by rw [if_pos q1, if_pos q2, if_pos q3])⟩
          · rw [if_neg q3] at u
            exact Or.inr ⟨nI c, v2, nI f, nI (cnt + 1), nI (i + 1), s, ⟨rfl, rfl, rfl, rfl, rfl, cnt + 1, rfl, u.symm.trans a7⟩, fun k => (fr k).trans (by rw [if_pos q1, if_pos q2, if_neg q3])⟩
        · rw [if_neg q2] at u
          exact Or.inr ⟨nI c, v2, nI f, nI cnt, nI (i + 1), s, ⟨rfl, rfl, rfl, rfl, rfl, cnt, rfl, u.symm.trans a7⟩, fun k => (fr k).trans (by rw [if_pos q1, if_neg q2])⟩
      · rw [if_neg q1] at u
        exact Or.inr ⟨nI c, v2, nI f, nI cnt, nI (i + 1), s, ⟨rfl, rfl, rfl, rfl, rfl, cnt, rfl, u.symm.trans a7⟩, fun k => (fr k).trans (by rw [if_neg q1])⟩
    · intro v1 v2 v3 v4 v5 s ⟨a1, a2, a3, a4, a5, cnt, a6, a7⟩
      subst a2; subst a4; subst a6
      refine ⟨if v2 = (-1) then nI cnt else (-6), a7, fun k => (if_pos (show (64 : Int32) ≤ nI 64 by decide)).trans ?_⟩
      split <;> rfl
  obtain ⟨q, q1, q2⟩ := key
  rw [q1, q2]
theorem restsM_e {τ : Hp} {N f c : Nat} {C : Cp} (r : RM τ C) (b : BC C) (hN : 64 < N) (hf : f < 64) (p : Int32) : ∃ τ', t_X7_rests_26 N N (nI c) p (nI f) 0 0 τ = some (rsS C f c p 64 0, τ') ∧ GF τ τ' := by
  have key : ∃ q : Int32 × Hp, t_X7_rests_26 N N (nI c) p (nI f) 0 0 τ = some q ∧ (q.1 = rsS C f c p 64 0 ∧ GF τ q.2) := by
    unfold t_X7_rests_26
    refine li6 _ (fun i v1 v2 v3 v4 v5 s => v1 = nI c ∧ v2 = p ∧ v3 = nI f ∧ v5 = nI i ∧ GF τ s ∧ ∃ cnt, v4 = nI cnt ∧ rsS C f c p (64 - i) cnt = rsS C f c p 64 0) _ 64 ?_ ?_ N (nI c) p (nI f) 0 0 τ (by omega) ⟨rfl, rfl, rfl, rfl, fun _ _ => rfl, 0, rfl, rfl⟩
    · intro i v1 v2 v3 v4 v5 s hi ⟨a1, a2, a3, a4, a5, cnt, a6, a7⟩
      subst a1; subst a2; subst a3; subst a4; subst a6
      have u : rsS C f c v2 (64 - i) cnt = if (nI i &&& (nI f ^^^ (-1))) = 0 then (if rok C f i c 6 = true then (if nI cnt = v2 then nI i else rsS C f c v2 (64 - (i + 1)) (cnt + 1)) else rsS C f c v2 (64 - (i + 1)) cnt) else rsS C f c v2 (64 - (i + 1)) cnt := by
        rw [show 64 - i = (63 - i) + 1 by omega, show 64 - (i + 1) = 63 - i by omega]
        show (if (nI (63 - (63 - i)) &&& _) = 0 then _ else _) = _
        rw [show 63 - (63 - i) = i by omega]
      have c64 : ¬ (64 : Int32) ≤ nI i := nI_ge (a := i) (b := 64) hi (by omega)
      obtain ⟨s1, e1, f1⟩ := isRestM_e (N := N) (c := c) (GF_RM a5 r) b (by omega) hi hf
      have fr : ∀ k : Int32 → Int32 → Int32 → Int32 → Int32 → Hp → Option (Int32 × Hp), (if (64 : Int32) ≤ nI i then if v2 = (-1) then some (nI cnt, s) else some ((-6), s) else if ((nI i) &&& ((nI f) ^^^ (-1))) = 0 then b2 (t_X7_isRest N (nI i) (nI f) (nI c) s) (fun (r2 : Int32) (σ3 : Hp) => if r2 = 0 then t_X7_rests_65 N k (nI c) v2 (nI f) (nI cnt) (nI i) σ3 else if (nI cnt) = v2 then some (nI i, σ3) else bnd ((nI cnt) + 1) (fun x3 : Int32 => t_X7_rests_65 N k (nI c) v2 (nI f) x3 (nI i) σ3)) else t_X7_rests_65 N k (nI c) v2 (nI f) (nI cnt) (nI i) s) = if ((nI i) &&& ((nI f) ^^^ (-1))) = 0 then (if rok C f i c 6 = true then (if (nI cnt) = v2 then some (nI i, s1) else k (nI c) v2 (nI f) (nI (cnt + 1)) (nI (i + 1)) s1) else k (nI c) v2 (nI f) (nI cnt) (nI (i + 1)) s1) else k (nI c) v2 (nI f) (nI cnt) (nI (i + 1)) s := by
        intro k
        unfold t_X7_rests_65
        rw [if_neg c64, e1, b2_s, bI_0, bnd_e, bnd_e, bnd_e, bnd_e, nI_1, nI_1]
      by_cases q1 : (nI i &&& (nI f ^^^ (-1))) = 0
      · rw [if_pos q1] at u
        by_cases q2 : rok C f i c 6 = true
        · rw [if_pos q2] at u
          by_cases q3 : nI cnt = v2
          · rw [if_pos q3] at u
            exact Or.inl ⟨(nI i, s1), ⟨u.symm.trans a7, GF_tr a5 f1⟩, fun k => (fr k).trans (by rw [if_pos q1, if_pos q2, if_pos q3])⟩
          · rw [if_neg q3] at u
            exact Or.inr ⟨nI c, v2, nI f, nI (cnt + 1), nI (i + 1), s1, ⟨rfl, rfl, rfl, rfl, GF_tr a5 f1, cnt + 1, rfl, u.symm.trans a7⟩, fun k => (fr k).trans (by rw [if_pos q1, if_pos q2, if_neg q3])⟩
        · rw [if_neg q2] at u
          exact Or.inr ⟨nI c, v2, nI f, nI cnt, nI (i + 1), s1, ⟨rfl, rfl, rfl, rfl, GF_tr a5 f1, cnt, rfl, u.symm.trans a7⟩, fun k => (fr k).trans (by rw [if_pos q1, if_neg q2])⟩
      · rw [if_neg q1] at u
        exact Or.inr ⟨nI c, v2, nI f, nI cnt, nI (i + 1), s, ⟨rfl, rfl, rfl, rfl, a5, cnt, rfl, u.symm.trans a7⟩, fun k => (fr k).trans (by rw [if_neg q1])⟩
    · intro v1 v2 v3 v4 v5 s ⟨a1, a2, a3, a4, a5, cnt, a6, a7⟩
      subst a2; subst a4; subst a6
      refine ⟨(if v2 = (-1) then nI cnt else (-6), s), ⟨a7, a5⟩, fun k => (if_pos (show (64 : Int32) ≤ nI 64 by decide)).trans ?_⟩
      by_cases q : v2 = (-1)
      · rw [if_pos q, if_pos q]
      · rw [if_neg q, if_neg q]
  obtain ⟨⟨q, s⟩, q1, q2, q3⟩ := key
  exact ⟨s, by rw [q1]; exact congrArg (fun z => some (z, s)) q2, q3⟩
theorem k_rests {N : Nat} (hN : 64 < N) {σ τ : Hp} (hR : Rl σ τ) (p0 p1 : Int32) : ∃ r : Int32, ∃ τ1 : Hp, t_X6_rests N p0 p1 σ = some r ∧ t_X7_rests N p0 p1 τ = some (r, τ1) ∧ Rl σ τ1 := by
  obtain ⟨C, H, pn, P, h1, h2, h3, h4, h5, h6, h7, h8, h9⟩ := id hR
  unfold t_X6_rests t_X7_rests
  rw [isWithin_e, in_l (a := 0) (b := 99) 0 99 rfl rfl, bind_s, bind_s]
  by_cases hq : p0 < 0 ∨ 99 < p0
  · rw [ite_0 hq, ite_0 hq]; exact ⟨_, _, rfl, rfl, hR⟩
  obtain ⟨c, hc, rfl⟩ := rng_c (p := p0) (m := 99) (by decide) hq
  have hf := frH_lt h3 (C 0 0) h3.1.2
  obtain ⟨τ', e1, f1⟩ := restsM_e (N := N) (c := c) h2 h3 hN hf p1
  rw [ite_1 hq, ite_1 hq, frX_e h1 h3 (by omega), bind_s, frM_e h2 h3 (by omega), bind_s, restsX_e h1 h3 hN hf, e1]
  exact ⟨_, _, rfl, rfl, Rl_fr hR XF_rf (GF_MF f1)⟩
