/-! the model tries a row -/
def FB (τ s : Hp) : Prop := (∀ a, (a = 1 ∨ a = 3 ∨ (6 ≤ a ∧ a ≤ 15) ∨ a = 18 ∨ a = 25 ∨ a = 26) → s a = τ a) ∧ (∀ j, j ≠ 23 → j ≠ 24 → j ≠ 26 → j ≠ 27 → j ≠ 33 → s 0 j = τ 0 j) ∧ ∀ i, i < 7 → s 2 i = τ 2 i ∧ s 4 i = τ 4 i ∧ s 5 i = τ 5 i
theorem FB_rf {τ : Hp} : FB τ τ := ⟨fun _ _ => rfl, fun _ _ _ _ _ _ => rfl, fun _ _ => ⟨rfl, rfl, rfl⟩⟩
theorem FB_fr {τ s t : Hp} (h : FB τ s) (e : ∀ a, a ≠ 0 → (a < 16 ∨ a = 18 ∨ 23 < a) → t a = s a) (e0 : ∀ j, j ≠ 33 → t 0 j = s 0 j) : FB τ t := by
  refine ⟨fun a ha => (e a (by omega) (by omega)).trans (h.1 a ha), fun j h1 h2 h3 h4 h5 => (e0 j h5).trans (h.2.1 j h1 h2 h3 h4 h5), fun i hi => ?_⟩
  rw [e 2 (by omega) (by omega), e 4 (by omega) (by omega), e 5 (by omega) (by omega)]; exact h.2.2 i hi
theorem FB_MW {τ s : Hp} (h : FB τ s) : MW τ s := ⟨fun a ha => h.1 a (by omega), h.2.2, h.2.1 0 (by omega) (by omega) (by omega) (by omega) (by omega), h.2.1 7 (by omega) (by omega) (by omega) (by omega) (by omega), h.2.1 11 (by omega) (by omega) (by omega) (by omega) (by omega), h.2.1 14 (by omega) (by omega) (by omega) (by omega) (by omega), h.2.1 16 (by omega) (by omega) (by omega) (by omega) (by omega)⟩
theorem FB_MK {τ s : Hp} (k : MK τ τ) (h : FB τ s) : MK τ s := ⟨fun a ha => h.1 a (by omega), fun i hi => by rw [h.1 18 (by omega)]; exact k.2.1 i hi, by rw [h.1 18 (by omega)]; exact k.2.2.1, h.2.1 0 (by omega) (by omega) (by omega) (by omega) (by omega), h.2.1 11 (by omega) (by omega) (by omega) (by omega) (by omega), h.2.1 14 (by omega) (by omega) (by omega) (by omega) (by omega), h.2.1 16 (by omega) (by omega) (by omega) (by omega) (by omega)⟩
theorem FB_RW {τ s : Hp} {n : Nat} {f : Nat → Nat} {C : Cp} (h : FB τ s) (r : RM τ C) (hn : C 0 0 = n) (h16 : RS s n f) : RW s (Cr n f C) := by
  have rm := MW_RM (FB_MW h) r
  refine ⟨by rw [Cr_o (by omega)]; exact rm.1, by rw [Cr_o (by omega)]; exact rm.2.1, fun p hp => ?_, fun e he => ?_⟩
  · rw [(Cr_o (by omega) : Cr n f C 0 0 = C 0 0).trans hn] at hp
    rw [Cr_r hp]; exact h16 p hp
  · rw [Cr_o (by omega), Cr_o (by omega), Cr_o (by omega), Cr_o (by omega), Cr_o (by omega)]; exact rm.2.2.2 e he
def sAll (H : Cp) (t : Nat → Int32) : Nat → Bool
  | 0 => true
  | k + 1 => sAll H t k && sOk H t k
theorem sAll_iff {H : Cp} {t : Nat → Int32} : ∀ k, sAll H t k = true ↔ ∀ i, i < k → sOk H t i = true
  | 0 => ⟨fun _ i hi => absurd hi (Nat.not_lt_zero i), fun _ => rfl⟩
  | k + 1 => by
    show (sAll H t k && sOk H t k) = true ↔ _
    rw [Bool.and_eq_true, sAll_iff k]
    constructor
    · intro ⟨h1, h2⟩ i hi
      by_cases c : i = k
      · subst c; exact h2
      · exact h1 i (by omega)
    · intro h
      exact ⟨fun i hi => h i (by omega), h k (by omega)⟩
theorem goSights_e {N n m q : Nat} {P : Nat → Nat} {f g : Nat → Nat} {τ s : Hp} {C H : Cp} (hn : C 0 0 = n) (hn7 : n ≤ 7) (hN : 60 < N) (pr : PR n f g) (b : BC C) (r : RM τ C) (rn : RN τ H) (hb : BH n H) (mk : MK τ τ) (h : FB τ s) (h16 : RS s n f) (hs0 : H 0 1 ≠ 0) (hm : m ≤ 60) (h20 : τ 0 20 = nI m) (w : WArr P n τ m) (hq : stopAt P n (Cr n f C) m q) : ∃ s', t_X7_fitsSights N s = some (bI (decide (q = m) && sAll H (aT P n (Cr n f C) q) (H 0 1)), s') ∧ FB τ s' ∧ (∀ a, a ≠ 0 → a ≠ 2 → a ≠ 4 → a ≠ 5 → a ≠ 17 → s' a = s a) ∧ s' 0 33 = s 0 33 := by
  have hs7 := hb.2.1
  have hqm := hq.1
  have s14 : s 0 14 = nI (H 0 1) := by rw [h.2.1 14 (by omega) (by omega) (by omega) (by omega) (by omega)]; exact rn.2.1
  obtain ⟨s4, e4, g1, g2, g3, g4, g5, g6, g7, g8⟩ := goWeek_e (N := N) (t := s) (m := m) (q := q) (P := P) (FB_RW h r hn h16) (BC_Cr b hn pr) ((Cr_o (by omega) : Cr n f C 0 0 = C 0 0).trans hn) hN hm (by rw [h.2.1 20 (by omega) (by omega) (by omega) (by omega) (by omega)]; exact h20) (WArr_fr w (h.1 13 (by omega)) (h.1 14 (by omega)) (h.1 15 (by omega))) hq
  have mk4 : MK τ s4 := MK_fr (FB_MK mk h) (fun a h0 h2 h4 h5 h' => g7 a h0 h2 h4 h5 (by omega)) (g8 0 (by decide) (by decide) (by decide) (by decide) (by decide)) (g8 11 (by decide) (by decide) (by decide) (by decide) (by decide)) (g8 14 (by decide) (by decide) (by decide) (by decide) (by decide)) (g8 16 (by decide) (by decide) (by decide) (by decide) (by decide))
  obtain ⟨s7, e7, mw7, za, zj⟩ := putBack_e (N := N) (by omega) mk4
  have c14 : s4 0 14 = nI (H 0 1) := by rw [g8 14 (by decide) (by decide) (by decide) (by decide) (by decide)]; exact s14
  obtain ⟨b0, hb0⟩ : ∃ b0 : Bool, b0 = decide (q = m) := ⟨_, rfl⟩
  obtain ⟨t, ht⟩ : ∃ t : Nat → Int32, t = aT P n (Cr n f C) q := ⟨_, rfl⟩
  have key : ∃ z : Int32 × Hp, t_X7_fitsSights_28 N N (bI b0) 0 s4 = some z ∧ (z.1 = bI (b0 && sAll H t (H 0 1)) ∧ z.2 = s7) := by
    unfold t_X7_fitsSights_28
    refine li3 _ (fun i (v1 : Int32) (v2 : Int32) (u : Hp) => v1 = bI (b0 && sAll H t i) ∧ v2 = nI i ∧ u = s4) _ (H 0 1) ?_ ?_ N (bI b0) 0 s4 (by omega) ⟨by show _ = bI (b0 && true); rw [Bool.and_true], rfl, rfl⟩
    · intro i v1 v2 u hi ⟨a1, a2, a3⟩
      subst a1; subst a2; subst a3
      have hi7 : i < 7 := by omega
      obtain ⟨d1, d2⟩ := rn.2.2.2 i hi7
      have h4 := hb.2.2.2.2.2 i hi
      have h5 := (hb.2.2.2.1 i hi7).2
      have u10 : u 10 i = nI (H 4 i) := by rw [g7 10 (by decide) (by decide) (by decide) (by decide) (by decide), h.1 10 (by omega)]; exact d1
      have u11 : u 11 i = nI (H 5 i) := by rw [g7 11 (by decide) (by decide) (by decide) (by decide) (by decide), h.1 11 (by omega)]; exact d2
      have u17 : u 17 (H 4 i) = t (H 4 i) := by rw [g4 _ h4, ht]
      refine Or.inr ⟨bI (b0 && sAll H t (i + 1)), nI (i + 1), u, ⟨rfl, rfl, rfl⟩, fun k => ?_⟩
      show (if u 0 14 ≤ nI i then _ else _) = _
      unfold t_X7_fitsSights_82 t_X7_fitsSights_78 t_X7_fitsSights_83
      rw [c14, if_neg (nI_ge hi (by omega))]
      simp only [gi_in (k := i) (n := 7) hi7 (by omega), nI_clamp (n := i) (by omega), u10, gi_in (k := H 4 i) (n := 7) (show H 4 i < 7 by omega) (by omega), nI_clamp (n := H 4 i) (by omega), u11, u17, bnd_e, nI_1]
      have ua : (b0 && sAll H t (i + 1)) = ((b0 && sAll H t i) && sOk H t i) := by show (b0 && (sAll H t i && sOk H t i)) = _; rw [Bool.and_assoc]
      rw [ua, bI_0]
      cases hc : (b0 && sAll H t i)
      · rw [if_neg (by decide), Bool.false_and]; rfl
      · rw [if_pos rfl, Bool.true_and, show (0 : Int32) = nI 0 from rfl, eq_nI (by omega) (by omega)]
        by_cases c5 : H 5 i = 0
        · rw [if_pos c5, show sOk H t i = decide (t (H 4 i) < 0) by unfold sOk; rw [if_pos c5]]
          by_cases c6 : t (H 4 i) < 0
          · rw [if_neg (show ¬ nI 0 ≤ t (H 4 i) from fun z => absurd c6 (Int32.not_lt.mpr z)), decide_eq_true c6]; rfl
          · rw [if_pos (show nI 0 ≤ t (H 4 i) from Int32.not_lt.mp c6), decide_eq_false c6]; rfl
        · rw [if_neg c5, show sOk H t i = decide (t (H 4 i) = nI (H 5 i)) by unfold sOk; rw [if_neg c5]]
          by_cases c6 : t (H 4 i) = nI (H 5 i)
          · rw [if_pos c6, decide_eq_true c6]; rfl
          · rw [if_neg c6, decide_eq_false c6]; rfl
    · intro v1 v2 u ⟨a1, a2, a3⟩
      subst a1; subst a2; subst a3
      refine ⟨(bI (b0 && sAll H t (H 0 1)), s7), ⟨rfl, rfl⟩, fun k => ?_⟩
      show (if u 0 14 ≤ nI (H 0 1) then _ else _) = _
      rw [c14, if_pos (nI_le (Nat.le_refl _) (by omega)), e7, bind_s, zb_I]
  obtain ⟨⟨z, u⟩, z1, z2, z3⟩ := key
  have z3' : u = s7 := z3
  have z2' : z = bI (b0 && sAll H t (H 0 1)) := z2
  subst z3'
  refine ⟨u, ?_, ⟨fun a ha => ?_, fun j h1 h2 h3 h4 h5 => ?_, mw7.2.1⟩, fun a h0 h2 h4 h5 h17 => (za a h0 h2 h4 h5).trans (g7 a h0 h2 h4 h5 h17), (zj 33 (by decide)).trans (g8 33 (by decide) (by decide) (by decide) (by decide) (by decide))⟩
  · unfold t_X7_fitsSights t_X7_fitsSights_25
    rw [s14, show (0 : Int32) = nI 0 from rfl, eq_nI (by omega) (by omega), if_neg hs0, e4, bind_s, g5, ← hb0, ← ht, ← z2', ← z1]
    by_cases c : q < m
    · rw [if_pos c, if_pos (nI_le (Nat.zero_le _) (by omega)), hb0, decide_eq_false (by omega)]; rfl
    · rw [if_neg c, if_neg (by decide), hb0, decide_eq_true (by omega)]; rfl
  · rw [za a (by omega) (by omega) (by omega) (by omega), g7 a (by omega) (by omega) (by omega) (by omega) (by omega)]; exact h.1 a ha
  · by_cases c : j = 7
    · rw [c]; exact mw7.2.2.2.1
    · rw [zj j c, g8 j c h1 h2 h3 h4]; exact h.2.1 j h1 h2 h3 h4 h5
/-- the tables that the search is done by -/
def ZI (P : Nat → Nat) (n m : Nat) (C H Z : Cp) (se : Nat → Int32) (τ : Hp) : Prop := (∀ e, e < n → Z 0 e = tAL H e (H 0 0) ∧ Z 1 e = tMA 0 H e (H 0 0) ∧ Z 2 e = tMA 1 H e (H 0 0)) ∧ (H 0 1 = 0 → ∀ e, e < n → Z 4 e = 0 ∧ se e = (-1)) ∧ (H 0 1 ≠ 0 → (∀ e, e < n → Z 3 e = wH P n C m e ∧ Z 4 e = cF P n m e ∧ se e = tSE H e (H 0 1)) ∧ (∀ e, e < n → C 2 (e * 5 + 4) = 0) ∧ m ≤ 60 ∧ τ 0 20 = nI m ∧ WArr P n τ m ∧ ∀ k, k < m → vld P n k ∧ kd P n k ≤ 2)
theorem okL_all {Z : Cp} {se : Nat → Int32} {n : Nat} {l : List Nat} (h : l.length = n) : okL Z se 0 0 0 0 l = true ↔ (∀ p, p < n → cbl Z (rw7 l p) p (bF (rw7 l) p) (if p = 0 then 0 else rw7 l (p - 1)) = true) ∧ ∀ p, p < n → chi Z se (rw7 l p) (mF (Z 3) (rw7 l) (p + 1)) = true := by
  rw [okL_iff, h]
  constructor
  · intro g
    refine ⟨fun p hp => ?_, fun p hp => ?_⟩
    · have := (g p hp).1
      rw [Nat.zero_add, Nat.zero_or] at this; exact this
    · have := (g p hp).2
      rw [Nat.zero_max] at this; exact this
  · intro ⟨g1, g2⟩ p hp
    rw [Nat.zero_add, Nat.zero_or, Nat.zero_max]
    exact ⟨g1 p hp, g2 p hp⟩
theorem rowT_e {N n m : Nat} {P : Nat → Nat} {τ s : Hp} {C H Z : Cp} {se : Nat → Int32} {l : List Nat} (hn : C 0 0 = n) (hn7 : n ≤ 7) (hN : 60 < N) (hl : l ∈ lexL n n 0) (b : BC C) (r : RM τ C) (rn : RN τ H) (hb : BH n H) (mk : MK τ τ) (zi : ZI P n m C H Z se τ) (h : FB τ s) (h16 : RS s n (rw7 l)) : ∃ s', FB τ s' ∧ (∀ a, (a = 16 ∨ (21 ≤ a ∧ a ≤ 23)) → s' a = s a) ∧ s' 0 33 = s 0 33 ∧ ∀ (ky kn : Hp → Option (Int32 × Hp)), b2 (t_X7_fitsClues N s) (fun (r3 : Int32) (σ4 : Hp) => if r3 = 0 then kn σ4 else b2 (t_X7_fitsSights N σ4) (fun (r5 : Int32) (σ6 : Hp) => if r5 = 0 then kn σ6 else ky σ6)) = if okL Z se 0 0 0 0 l = true then ky s' else kn s' := by
  have pr := row_PR hn7 hl
  have ll := (lex_mem n 0 l hl).1
  obtain ⟨zc, z0, zs⟩ := zi
  have ok := okL_all (Z := Z) (se := se) ll
  have ci := clue_iff hn7 pr hb zc
  have s00 : s 0 0 = nI n := by rw [h.2.1 0 (by omega) (by omega) (by omega) (by omega) (by omega), ← hn]; exact r.1
  obtain ⟨s1, e1, f1⟩ := fitsClues_e (N := N) hn7 (by omega) pr s00 h16 hb (by rw [h.2.1 11 (by omega) (by omega) (by omega) (by omega) (by omega)]; exact rn.1) (fun i hi => by rw [h.1 7 (by omega), h.1 8 (by omega), h.1 9 (by omega)]; exact rn.2.2.1 i hi)
  have h1 : FB τ s1 := FB_fr h (fun a h0 ha => f1 a (by omega)) (fun j _ => by rw [f1 0 (by decide)])
  by_cases c1 : cAll H (ix l) (H 0 0) = true
  · by_cases c2 : H 0 1 = 0
    · have oky : okL Z se 0 0 0 0 l = true := by
        refine ok.mpr ⟨ci.mpr c1, fun p hp => ?_⟩
        obtain ⟨y1, y2⟩ := z0 c2 _ (pr.1 p hp).1
        unfold chi
        rw [y1, y2, decide_eq_true (Nat.zero_le _)]; rfl
      refine ⟨s1, h1, fun a ha => f1 a (by omega), by rw [f1 0 (by decide)], fun ky kn => ?_⟩
      rw [e1, b2_s, c1, if_neg (show ¬ bI true = 0 by decide), if_pos oky]
      have : t_X7_fitsSights N s1 = some (1, s1) := by
        unfold t_X7_fitsSights
        rw [f1 0 (by decide), h.2.1 14 (by omega) (by omega) (by omega) (by omega) (by omega), rn.2.1, c2, if_pos (show nI 0 = (0 : Int32) from rfl)]
      rw [this, b2_s, if_neg (by decide)]
    · obtain ⟨y1, y2, y3, y4, y5, y6⟩ := zs c2
      obtain ⟨q, hq⟩ := stop_ex P n (Cr n (rw7 l) C) m
      obtain ⟨s2, e2, f2, g2, k2⟩ := goSights_e (N := N) hn hn7 hN pr b r rn hb mk h1 (fun p hp => by rw [f1 16 (by decide)]; exact h16 p hp) c2 y3 y4 y5 hq
      have si := sight_iff hn hn7 pr y3 y6 y2 hq hb y1
      have oky : okL Z se 0 0 0 0 l = (decide (q = m) && sAll H (aT P n (Cr n (rw7 l) C) q) (H 0 1)) := by
        rw [Bool.eq_iff_iff, ok, ci, si, Bool.and_eq_true, decide_eq_true_iff, sAll_iff]
        constructor
        · intro ⟨_, g3, g4⟩
          exact ⟨g3, by rw [g3]; exact g4⟩
        · intro ⟨g3, g4⟩
          exact ⟨c1, g3, by rw [g3] at g4; exact g4⟩
      refine ⟨s2, f2, fun a ha => (g2 a (by omega) (by omega) (by omega) (by omega) (by omega)).trans (f1 a (by omega)), by rw [k2, f1 0 (by decide)], fun ky kn => ?_⟩
      rw [e1, b2_s, c1, if_neg (show ¬ bI true = 0 by decide), e2, b2_s, ← oky, bI_0]
  · have oky : ¬ okL Z se 0 0 0 0 l = true := fun z => c1 (ci.mp (ok.mp z).1)
    refine ⟨s1, h1, fun a ha => f1 a (by omega), by rw [f1 0 (by decide)], fun ky kn => ?_⟩
    rw [e1, b2_s, show cAll H (ix l) (H 0 0) = false by simpa using c1, if_pos (show bI false = 0 from rfl), if_neg oky]
