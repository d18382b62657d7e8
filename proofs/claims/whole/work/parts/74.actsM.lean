/-! the model: a week is gone through -/
def SM (P : Nat → Nat) (n : Nat) (D0 : Cp) (t : Hp) (k : Nat) (bad wy : Int32) (s : Hp) : Prop := RW s (aD P n D0 k) ∧ s 0 23 = nI (aH P n k) ∧ s 0 24 = nI (aN P n D0 k) ∧ (∀ e, e < n → s 17 e = aT P n D0 k e) ∧ s 0 26 = bad ∧ s 0 27 = wy ∧ (∀ a, a ≠ 0 → a ≠ 2 → a ≠ 4 → a ≠ 5 → a ≠ 17 → s a = t a) ∧ ∀ j, j ≠ 7 → j ≠ 23 → j ≠ 24 → j ≠ 26 → j ≠ 27 → s 0 j = t 0 j
theorem whyNot_e {P : Nat → Nat} {n m k : Nat} {s : Hp} {D : Cp} (r : RW s D) (b : BC D) (hn : n ≤ 7) (hm : m ≤ 60) (hk : k < m) (w : WArr P n s m) : t_X7_whyNot (nI k) s = some (nI (why P n D k)) := by
  obtain ⟨w1, w2, w3, w4⟩ := w k hk
  have hkd := kd_le P n k
  unfold t_X7_whyNot why
  rw [gi_in (by omega) (by omega), nI_clamp (by omega), w2, bnd_e]
  rw [show (2 : Int32) = nI 2 from rfl, le_nI (by omega) (by omega), show (4 : Int32) = nI 4 from rfl]
  by_cases c : kd P n k < 2
  · rw [if_pos c, gi_in (by omega) (by omega), if_neg (by omega)]; rfl
  · rw [if_neg c, gi_in (by omega) (by omega), if_pos (by omega), w3 (by omega)]
    rcases act_cs hn w1 with ⟨c1, _⟩ | ⟨c1, _⟩ | ⟨_, c2, c3, c4, c5⟩
    · omega
    · omega
    · obtain ⟨e, he⟩ : ∃ e, eg P n k = e := ⟨_, rfl⟩
      rw [he] at c3 ⊢
      have he7 : e < 7 := by omega
      obtain ⟨k0, k1, k2, k3, k4⟩ := b.2.2.2.2.2 e he7
      have d4 := ((RW_i r).2.2.2 e he7).2.2.2.2
      simp only [gi_in (k := e) (n := 7) he7 (by omega), gi_in (k := k) (n := 60) (by omega) (by omega), nI_clamp (n := e) (by omega), d4]
      rw [show (1 : Int32) = nI 1 from rfl, show (0 : Int32) = nI 0 from rfl, eq_nI (by omega) (by omega), eq_nI (a := kd P n k) (b := 4) (by omega) (by omega), eq_nI (a := D 2 (e * 5 + 4)) (b := 0) (by omega) (by omega), eq_nI (a := D 2 (e * 5 + 4)) (b := 2) (by omega) (by omega)]
      split
      · rfl
      · split
        · split <;> rfl
        · split <;> rfl
theorem happen_e {P : Nat → Nat} {n m k N : Nat} {s : Hp} {D0 : Cp} (r : RW s (aD P n D0 k)) (b0 : BC D0) (hn : n ≤ 7) (hN : 7 < N) (hm : m ≤ 60) (hk : k < m) (w : WArr P n s m) (h23 : s 0 23 = nI (aH P n k)) (h24 : s 0 24 = nI (aN P n D0 k)) (h17 : ∀ e, e < n → s 17 e = aT P n D0 k e) (hw : ∀ j, j < k + 1 → why P n (aD P n D0 j) j = 0) : ∃ s', t_X7_happen N (nI k) s = some s' ∧ RW s' (aD P n D0 (k + 1)) ∧ s' 0 23 = nI (aH P n (k + 1)) ∧ s' 0 24 = nI (aN P n D0 (k + 1)) ∧ (∀ e, e < n → s' 17 e = aT P n D0 (k + 1) e) ∧ (∀ a, a ≠ 0 → a ≠ 2 → a ≠ 4 → a ≠ 5 → a ≠ 17 → s' a = s a) ∧ ∀ j, j ≠ 7 → j ≠ 23 → j ≠ 24 → s' 0 j = s 0 j := by
  obtain ⟨w1, w2, w3, w4⟩ := w k hk
  have hkd := kd_le P n k
  have hv : ∀ j, j < m → vld P n j := fun j hj => (w j hj).1
  have bD := BC_aD hn b0 hv k (by omega)
  have uD : aD P n D0 (k + 1) = nxD P n (aD P n D0 k) k := rfl
  have uH : aH P n (k + 1) = aH P n k + if kd P n k = 0 then 1 else 0 := rfl
  have uN : aN P n D0 (k + 1) = aN P n D0 k + if kd P n k = 0 then pop7 (hbC (aD P n D0 k)) else 0 := rfl
  have uT : ∀ e, aT P n D0 (k + 1) e = if kd P n k = 0 then (if (hbC (aD P n D0 k)).testBit e = true then nI (aH P n k + 1) else aT P n D0 k e) else if kd P n k = 4 ∧ e = eg P n k then nI 0 else aT P n D0 k e := fun _ => rfl
  unfold t_X7_happen t_X7_happen_98 t_X7_happen_120
  rw [gi_in (by omega) (by omega), nI_clamp (by omega), w2, bnd_e]
  simp only [gi_in (k := k) (n := 60) (by omega) (by omega)]
  rw [show (0 : Int32) = nI 0 from rfl, show (1 : Int32) = nI 1 from rfl, show (2 : Int32) = nI 2 from rfl, show (3 : Int32) = nI 3 from rfl, eq_nI (by omega) (by omega), eq_nI (a := kd P n k) (b := 1) (by omega) (by omega), eq_nI (a := kd P n k) (b := 2) (by omega) (by omega), eq_nI (a := kd P n k) (b := 3) (by omega) (by omega)]
  rcases act_cs hn w1 with ⟨c1, _⟩ | ⟨c1, c2, c3, c4⟩ | ⟨c1, c2, c3, c4, c5⟩
  · obtain ⟨s1, e1, r1, g3, g4, g6, g7⟩ := hourM_e (N := N) r bD hN h23 h24
    rw [if_pos c1, e1]
    refine ⟨s1, rfl, ?_, ?_, ?_, fun e he => ?_, fun a h0 h2 h4 h5 h17 => g7.1 a h0 h2 h5 h17, fun j h7 h23 h24 => g7.2 j h23 h24⟩
    · rw [uD]; unfold nxD; rw [if_pos c1]; exact r1
    · rw [uH, if_pos c1]; exact g3
    · rw [uN, if_pos c1]; exact g4
    · rw [uT, if_pos c1, g6 e (by omega), h17 e he]
  · have hx := xr6 _ bD.2.1 _ c3
    have hk0 : ¬ kd P n k = 0 := by omega
    have hv := w4 (Or.inl c1)
    rw [if_neg hk0, if_pos c1, (RW_i r).2.1, hv]
    have e1 : (nI 1) <<< (nI (ahs P n k) &&& 31) = nI (2 ^ ahs P n k) := (pw6 _ c3).2
    rw [e1, hx.1, bnd_e]
    refine ⟨_, rfl, ?_, ?_, ?_, fun e he => ?_, fun a h0 _ _ _ _ => by rw [hs_o h0], fun j h7 _ _ => by rw [hs_k h7]⟩
    · rw [uD]; unfold nxD; rw [if_neg hk0, if_pos c1]; exact RW_st r _
    · rw [hs_k (by decide), uH, if_neg hk0]; exact h23
    · rw [hs_k (by decide), uN, if_neg hk0]; exact h24
    · rw [hs_o (by decide), uT, if_neg hk0, if_neg (fun z => by omega)]; exact h17 e he
  · have hk0 : ¬ kd P n k = 0 := by omega
    have hk1 : ¬ kd P n k = 1 := by omega
    have he7 : eg P n k < 7 := by omega
    rw [if_neg hk0, if_neg hk1, w3 c1]
    simp only [gi_in (k := eg P n k) (n := 7) he7 (by omega), nI_clamp (n := eg P n k) (by omega), bnd_e]
    rcases c5 with ⟨q1, q2, q3⟩ | ⟨q1, q2⟩ | ⟨q1, q2⟩
    · rw [if_pos q1, w4 (Or.inr q1)]
      refine ⟨_, rfl, ?_, ?_, ?_, fun e he => ?_, fun a _ _ h4 _ _ => by rw [hs_o h4], fun j _ _ _ => by rw [hs_o (by decide)]⟩
      · rw [uD]; unfold nxD; rw [if_neg hk0, if_neg hk1, if_pos q1]; exact RW_fact (k := 3) r he7 (by omega)
      · rw [hs_o (by decide), uH, if_neg hk0]; exact h23
      · rw [hs_o (by decide), uN, if_neg hk0]; exact h24
      · rw [hs_o (by decide), uT, if_neg hk0, if_neg (fun z => by omega)]; exact h17 e he
    · have hinv := aT_inv (D0 := D0) hn hv k (by omega) (fun j hj => hw j (by omega)) (eg P n k) (by
        have ww := hw k (by omega)
        intro z
        unfold why at ww
        rw [if_neg (by omega), if_pos z] at ww; omega)
      rw [if_neg (by omega), if_pos q1, hs_o (by decide), w2, eq_nI (by omega) (by omega), if_pos q1]
      refine ⟨_, rfl, ?_, ?_, ?_, fun e he => ?_, fun a _ _ _ h5 h17 => by rw [hs_o h17, hs_o h5], fun j _ _ _ => by rw [hs_o (by decide), hs_o (by decide)]⟩
      · rw [uD]; unfold nxD; rw [if_neg hk0, if_neg hk1, if_neg (by omega), if_pos q1]
        exact RW_fr (RW_fact (k := 4) (v := 2) r he7 (by omega)) (fun a _ _ => by simp (disch := omega) only [hs_o, hs_k]) (by simp (disch := omega) only [hs_o, hs_k]) (by simp (disch := omega) only [hs_o, hs_k]) (by simp (disch := omega) only [hs_o, hs_k])
      · rw [hs_o (by decide), hs_o (by decide), uH, if_neg hk0]; exact h23
      · rw [hs_o (by decide), hs_o (by decide), uN, if_neg hk0]; exact h24
      · rw [uT, if_neg hk0, if_neg (fun z => by omega)]
        by_cases ce : e = eg P n k
        · rw [ce, hs_eq, hinv]
        · rw [hs_k ce, hs_o (by decide)]; exact h17 e he
    · rw [if_neg (by omega), if_neg (by omega), hs_o (by decide), w2, eq_nI (by omega) (by omega), if_neg (by omega)]
      refine ⟨_, rfl, ?_, ?_, ?_, fun e he => ?_, fun a _ _ _ h5 h17 => by rw [hs_o h17, hs_o h5], fun j _ _ _ => by rw [hs_o (by decide), hs_o (by decide)]⟩
      · rw [uD]; unfold nxD; rw [if_neg hk0, if_neg hk1, if_neg (by omega), if_neg (by omega)]
        exact RW_fr (RW_fact (k := 4) (v := 1) r he7 (by omega)) (fun a _ _ => by simp (disch := omega) only [hs_o, hs_k]) (by simp (disch := omega) only [hs_o, hs_k]) (by simp (disch := omega) only [hs_o, hs_k]) (by simp (disch := omega) only [hs_o, hs_k])
      · rw [hs_o (by decide), hs_o (by decide), uH, if_neg hk0]; exact h23
      · rw [hs_o (by decide), hs_o (by decide), uN, if_neg hk0]; exact h24
      · rw [uT, if_neg hk0]
        by_cases ce : e = eg P n k
        · rw [ce, hs_eq, if_pos ⟨q1, rfl⟩]
        · rw [hs_k ce, hs_o (by decide), if_neg (fun z => ce z.2)]; exact h17 e he
theorem WArr_fr {P : Nat → Nat} {n m : Nat} {s t : Hp} (h : WArr P n t m) (e13 : s 13 = t 13) (e14 : s 14 = t 14) (e15 : s 15 = t 15) : WArr P n s m := by
  unfold WArr at *; rw [e13, e14, e15]; exact h
theorem goWeek_e {P : Nat → Nat} {n m q N : Nat} {t : Hp} {D0 : Cp} (r : RW t D0) (b0 : BC D0) (hn : D0 0 0 = n) (hN : 60 < N) (hm : m ≤ 60) (h20 : t 0 20 = nI m) (w : WArr P n t m) (hq : stopAt P n D0 m q) : ∃ s, t_X7_goWeek N t = some s ∧ SM P n D0 t q (if q < m then nI q else (-6)) (if q < m then nI (why P n (aD P n D0 q) q) else (-6)) s := by
  have hb := b0.1
  have hn7 : n ≤ 7 := by omega
  obtain ⟨h1, h2, h3⟩ := hq
  have hv : ∀ j, j < m → vld P n j := fun j hj => (w j hj).1
  have main : ∀ s, SM P n D0 t 0 (-6) (-6) s → ∃ z, t_X7_goWeek_62 N N 0 s = some z ∧ SM P n D0 t q (if q < m then nI q else (-6)) (if q < m then nI (why P n (aD P n D0 q) q) else (-6)) z := by
    intro s0 x0
    unfold t_X7_goWeek_62
    refine li2 _ (fun i (v : Int32) (s : Hp) => (i ≤ q ∧ v = nI i ∧ SM P n D0 t i (-6) (-6) s) ∨ (q < i ∧ SM P n D0 t q (nI q) (nI (why P n (aD P n D0 q) q)) s)) _ m ?_ ?_ N 0 s0 (by omega) (Or.inl ⟨Nat.zero_le _, rfl, x0⟩)
    · intro i v s hi hI
      rcases hI with ⟨a1, a2, a3⟩ | ⟨a1, a3⟩
      · subst a2
        obtain ⟨g1, g2, g3, g4, g5, g6, g7, g8⟩ := a3
        have bD := BC_aD hn7 b0 hv i (by omega)
        have ws : WArr P n s m := WArr_fr w (g7 13 (by decide) (by decide) (by decide) (by decide) (by decide)) (g7 14 (by decide) (by decide) (by decide) (by decide) (by decide)) (g7 15 (by decide) (by decide) (by decide) (by decide) (by decide))
        have wn := whyNot_e g1 bD hn7 hm hi ws
        have hwl := why_le P n (aD P n D0 i) i
        have c20 : s 0 20 = nI m := by rw [g8 20 (by decide) (by decide) (by decide) (by decide) (by decide)]; exact h20
        by_cases c : i < q
        · have hz := h2 i c
          obtain ⟨s', e1, y1, y2, y3, y4, y5, y6⟩ := happen_e (N := N) g1 b0 hn7 (by omega) hm hi ws g2 g3 g4 (fun j hj => h2 j (by omega))
          refine Or.inr ⟨nI (i + 1), s', Or.inl ⟨by omega, rfl, y1, y2, y3, y4, ?_, ?_, fun a b1 b2 b3 b4 b5 => ?_, fun j b1 b2 b3 b4 b5 => ?_⟩, fun k => ?_⟩
          · rw [y6 26 (by decide) (by decide) (by decide)]; exact g5
          · rw [y6 27 (by decide) (by decide) (by decide)]; exact g6
          · rw [y5 a b1 b2 b3 b4 b5]; exact g7 a b1 b2 b3 b4 b5
          · rw [y6 j b1 b2 b3]; exact g8 j b1 b2 b3 b4 b5
          · show (if s 0 20 ≤ nI i then _ else if 0 ≤ s 0 26 then _ else _) = _
            unfold t_X7_goWeek_94 t_X7_goWeek_108 t_X7_goWeek_120
            rw [c20, if_neg (nI_ge hi (by omega)), g5, if_neg (by decide), wn, bind_s, hz, if_pos (show nI 0 ≤ (0 : Int32) by decide), hset_self g5, bnd_e, if_pos (show nI 0 ≤ (0 : Int32) by decide), hset_self g6, bnd_e, if_pos (show nI 0 = (0 : Int32) from rfl), e1, bind_s, bnd_e, nI_1]
        · have e : i = q := by omega
          subst e
          have hz := h3 hi
          refine Or.inr ⟨nI (i + 1), hset (hset s 0 26 (nI i)) 0 27 (nI (why P n (aD P n D0 i) i)), Or.inr ⟨by omega, RW_fr g1 (fun a _ _ => by simp (disch := omega) only [hs_o, hs_k]) (by simp (disch := omega) only [hs_o, hs_k]) (by simp (disch := omega) only [hs_o, hs_k]) (by simp (disch := omega) only [hs_o, hs_k]), by simp (disch := omega) only [hs_o, hs_k]; exact g2, by simp (disch := omega) only [hs_o, hs_k]; exact g3, fun e he => by simp (disch := omega) only [hs_o, hs_k]; exact g4 e he, by rw [hs_k (by decide), hs_eq], hs_eq, fun a b1 b2 b3 b4 b5 => by rw [hs_o b1, hs_o b1]; exact g7 a b1 b2 b3 b4 b5, fun j b1 b2 b3 b4 b5 => by rw [hs_k b5, hs_k b4]; exact g8 j b1 b2 b3 b4 b5⟩, fun k => ?_⟩
          show (if s 0 20 ≤ nI i then _ else if 0 ≤ s 0 26 then _ else _) = _
          unfold t_X7_goWeek_94 t_X7_goWeek_108 t_X7_goWeek_120
          rw [c20, if_neg (nI_ge hi (by omega)), g5, if_neg (by decide), wn, bind_s, if_neg (nI_nle (by omega) (by omega)), bnd_e, if_neg (nI_nle (by omega) (by omega)), bnd_e, if_neg (nI_ne0 (by omega) (by omega)), bnd_e, nI_1]
      · refine Or.inl ⟨s, ?_, fun k => ?_⟩
        · rw [if_pos (by omega), if_pos (by omega)]; exact a3
        · show (if s 0 20 ≤ v then some s else if 0 ≤ s 0 26 then some s else _) = _
          rw [a3.2.2.2.2.1, if_pos (nI_pos' (by omega))]; split <;> rfl
    · intro v s hI
      rcases hI with ⟨a1, a2, a3⟩ | ⟨a1, a3⟩
      · have e : m = q := by omega
        subst a2
        subst e
        refine ⟨s, ?_, fun k => ?_⟩
        · rw [if_neg (by omega), if_neg (by omega)]; exact a3
        · have c20 : s 0 20 = nI m := by rw [a3.2.2.2.2.2.2.2 20 (by decide) (by decide) (by decide) (by decide) (by decide)]; exact h20
          show (if s 0 20 ≤ nI m then some s else _) = _
          rw [c20, if_pos (nI_le (Nat.le_refl _) (by omega))]
      · refine ⟨s, ?_, fun k => ?_⟩
        · rw [if_pos (by omega), if_pos (by omega)]; exact a3
        · show (if s 0 20 ≤ v then some s else if 0 ≤ s 0 26 then some s else _) = _
          rw [a3.2.2.2.2.1, if_pos (nI_pos' (by omega))]; split <;> rfl
  unfold t_X7_goWeek t_X7_goWeek_24
  rw [bnd_e, bnd_e, bnd_e, bnd_e]
  refine li2 _ (fun i (v : Int32) (s : Hp) => v = nI i ∧ RW s D0 ∧ s 0 23 = nI 0 ∧ s 0 24 = nI 0 ∧ (∀ e, e < i → s 17 e = aT P n D0 0 e) ∧ s 0 26 = (-6) ∧ s 0 27 = (-6) ∧ (∀ a, a ≠ 0 → a ≠ 2 → a ≠ 4 → a ≠ 5 → a ≠ 17 → s a = t a) ∧ ∀ j, j ≠ 7 → j ≠ 23 → j ≠ 24 → j ≠ 26 → j ≠ 27 → s 0 j = t 0 j) _ n ?_ ?_ N 0 _ (by omega) ⟨rfl, RW_fr r (fun a _ _ => by simp (disch := omega) only [hs_o, hs_k]) (by simp (disch := omega) only [hs_o, hs_k]) (by simp (disch := omega) only [hs_o, hs_k]) (by simp (disch := omega) only [hs_o, hs_k]), by rw [hs_k (by decide), hs_eq]; rfl, hs_eq, fun e he => absurd he (Nat.not_lt_zero e), by rw [hs_k (by decide), hs_k (by decide), hs_k (by decide), hs_eq], by rw [hs_k (by decide), hs_k (by decide), hs_eq], fun a h0 _ _ _ _ => by simp (disch := omega) only [hs_o, hs_k], fun j _ b2 b3 b4 b5 => by rw [hs_k b3, hs_k b2, hs_k b5, hs_k b4]⟩
  · intro i v s hi ⟨a1, a2, a3, a4, a5, a6, a7, a8, a9⟩
    subst a1
    have hi7 : i < 7 := by omega
    have ri := RW_i a2
    obtain ⟨k0, k1, k2, k3, k4⟩ := b0.2.2.2.2.2 i hi7
    refine Or.inr ⟨nI (i + 1), hset s 17 i (aT P n D0 0 i), ⟨rfl, RW_fr a2 (fun a _ _ => by simp (disch := omega) only [hs_o, hs_k]) (by simp (disch := omega) only [hs_o, hs_k]) (by simp (disch := omega) only [hs_o, hs_k]) (by simp (disch := omega) only [hs_o, hs_k]), by simp (disch := omega) only [hs_o, hs_k]; exact a3, by simp (disch := omega) only [hs_o, hs_k]; exact a4, fun e he => ?_, by simp (disch := omega) only [hs_o, hs_k]; exact a6, by simp (disch := omega) only [hs_o, hs_k]; exact a7, fun a b1 b2 b3 b4 b5 => by rw [hs_o b5]; exact a8 a b1 b2 b3 b4 b5, fun j b1 b2 b3 b4 b5 => by rw [hs_o (by decide)]; exact a9 j b1 b2 b3 b4 b5⟩, fun k => ?_⟩
    · by_cases c : e = i
      · subst c; rw [hs_eq]
      · rw [hs_k c]; exact a5 e (by omega)
    · show (if s 0 0 ≤ nI i then _ else _) = _
      unfold t_X7_goWeek_53
      rw [ri.1, hn, if_neg (nI_ge hi (by omega)), gi_in hi7 (by omega), gi_in hi7 (by omega), gi_in hi7 (by omega), nI_clamp (by omega), (ri.2.2.2 i hi7).2.2.2.2, show (1 : Int32) = nI 1 from rfl, eq_nI (by omega) (by omega), bnd_e, bnd_e, bnd_e, bnd_e, nI_add]
      show _ = k _ (hset s 17 i (if D0 2 (i * 5 + 4) = 1 then nI 0 else (-6)))
      split <;> rfl
  · intro v s ⟨a1, a2, a3, a4, a5, a6, a7, a8, a9⟩
    subst a1
    obtain ⟨z, z1, z2⟩ := main s ⟨a2, a3, a4, a5, a6, a7, a8, a9⟩
    refine ⟨z, z2, fun k => ?_⟩
    show (if s 0 0 ≤ nI n then _ else _) = _
    rw [(RW_i a2).1, hn, if_pos (nI_le (Nat.le_refl _) (by omega))]; exact z1
/-! where the dominoes stop -/
def ah1 (C : Cp) : Nat → Bool
  | 0 => true
  | p + 1 => ah1 C p && C 2 (C 1 p * 5 + 4) == 1
def wbB (C : Cp) : Nat → Nat
  | 0 => 0
  | p + 1 => if ah1 C p = false ∧ C 2 (C 1 p * 5 + 4) = 0 ∧ C 2 (C 1 p * 5) ≤ C 2 (C 1 p * 5 + 1) then wbB C p ||| 2 ^ C 1 p else wbB C p
def stE (C : Cp) : Nat → Int32
  | 0 => (-6)
  | p + 1 => if ah1 C p = true then (if C 2 (C 1 p * 5 + 4) = 1 then (-6) else nI (C 1 p)) else stE C p
theorem wbB_lt {C : Cp} (b : BC C) : ∀ p, p ≤ C 0 0 → wbB C p < 128
  | 0, _ => by show 0 < 128; omega
  | p + 1, hp => by
    have h1 := wbB_lt b p (by omega)
    have hb := b.1
    have h2 := b.2.2.2.2.1 p (by omega)
    unfold wbB
    split
    · exact (or_bit _ h1 _ h2).2
    · exact h1
theorem wbB_0 {C : Cp} : ∀ p, ah1 C p = true → wbB C p = 0
  | 0, _ => rfl
  | p + 1, h => by
    have h1 : ah1 C p = true := by
      have h' : (ah1 C p && C 2 (C 1 p * 5 + 4) == 1) = true := h
      rw [Bool.and_eq_true] at h'; exact h'.1
    show (if ah1 C p = false ∧ _ then _ else _) = _
    rw [if_neg (fun z => by rw [h1] at z; exact absurd z.1 (by decide))]; exact wbB_0 p h1
theorem stE_t {C : Cp} : ∀ p, ah1 C p = true → stE C p = (-6)
  | 0, _ => rfl
  | p + 1, h => by
    have h' : (ah1 C p && C 2 (C 1 p * 5 + 4) == 1) = true := h
    rw [Bool.and_eq_true, beq_iff_eq] at h'
    show (if ah1 C p = true then (if C 2 (C 1 p * 5 + 4) = 1 then (-6) else nI (C 1 p)) else stE C p) = _
    rw [if_pos h'.1, if_pos h'.2]
theorem stE_f {C : Cp} (b : BC C) : ∀ p, p ≤ C 0 0 → ah1 C p = false → ∃ x, x < 7 ∧ stE C p = nI x
  | 0, _, h => absurd (show true = false from h) (by decide)
  | p + 1, hp, h => by
    have hb := b.1
    have h' : (ah1 C p && C 2 (C 1 p * 5 + 4) == 1) = false := h
    show ∃ x, x < 7 ∧ (if ah1 C p = true then (if C 2 (C 1 p * 5 + 4) = 1 then (-6) else nI (C 1 p)) else stE C p) = nI x
    cases ha : ah1 C p
    · rw [if_neg (by decide)]; exact stE_f b p (by omega) ha
    · rw [ha, Bool.true_and, beq_eq_false_iff_ne] at h'
      rw [if_pos rfl, if_neg h']; exact ⟨_, b.2.2.2.2.1 p (by omega), rfl⟩
theorem ah1_off {C : Cp} {p : Nat} (h : ah1 C p = false) : ∀ d, ah1 C (p + d) = false
  | 0 => h
  | d + 1 => by show (ah1 C (p + d) && _) = false; rw [ah1_off h d]; rfl
theorem stE_off {C : Cp} {p : Nat} (h : ah1 C p = false) : ∀ d, stE C (p + d) = stE C p
  | 0 => rfl
  | d + 1 => by
    show (if ah1 C (p + d) = true then _ else stE C (p + d)) = _
    rw [ah1_off h d, if_neg (by decide)]; exact stE_off h d
theorem stopX_e {σ : Hp} {N o : Nat} {C : Cp} (r : RC σ o C) (b : BC C) (hN : 7 < N) : ∃ pl, pl ≤ C 0 0 ∧ t_X0_stopPlace N o σ = some (nI pl) ∧ ah1 C pl = true ∧ (pl < C 0 0 → C 2 (C 1 pl * 5 + 4) ≠ 1) := by
  have hb := b.1
  have key : ∃ q, t_X0_stopPlace N o σ = some q ∧ (∃ pl, pl ≤ C 0 0 ∧ q = nI pl ∧ ah1 C pl = true ∧ (pl < C 0 0 → C 2 (C 1 pl * 5 + 4) ≠ 1)) := by
    unfold t_X0_stopPlace t_X0_stopPlace_2
    refine li2 _ (fun i v s => v = nI i ∧ s = σ ∧ ah1 C i = true) _ (C 0 0) ?_ ?_ N 0 σ (by omega) ⟨rfl, rfl, rfl⟩
    · intro i v s hi ⟨a1, a2, a3⟩
      subst a1; subst a2
      have he7 : C 1 i < 7 := b.2.2.2.2.1 i (by omega)
      obtain ⟨k0, k1, k2, k3, k4⟩ := b.2.2.2.2.2 _ he7
      have fr : ∀ k : Int32 → Hp → Option Int32, (if (s o 0) ≤ (nI i) then some (s o 0) else Option.bind (t_X6_at (o + 1) 7 (nI i) s) (fun r1 : Int32 => Option.bind (t_X0_fact o r1 4 s) (fun r2 : Int32 => if r2 = 1 then bnd ((nI i) + 1) (fun x3 : Int32 => k x3 s) else some (nI i)))) = if C 2 (C 1 i * 5 + 4) = 1 then k (nI (i + 1)) s else some (nI i) := by
        intro k
        rw [r.1, if_neg (nI_ge hi (by omega)), at_in (by omega) (by omega), r.2.2.1 _ (by omega), bind_s, show (4 : Int32) = nI 4 from rfl, fact_in he7 (by omega), bind_s, r.2.2.2 _ (by omega), show (1 : Int32) = nI 1 from rfl, eq_nI (by omega) (by omega), bnd_e, nI_add]
      by_cases c : C 2 (C 1 i * 5 + 4) = 1
      · exact Or.inr ⟨nI (i + 1), s, ⟨rfl, rfl, by show (ah1 C i && C 2 (C 1 i * 5 + 4) == 1) = true; rw [a3, c]; rfl⟩, fun k => (fr k).trans (if_pos c)⟩
      · exact Or.inl ⟨nI i, ⟨i, by omega, rfl, a3, fun _ => c⟩, fun k => (fr k).trans (if_neg c)⟩
    · intro v s ⟨a1, a2, a3⟩
      subst a1; subst a2
      refine ⟨nI (C 0 0), ⟨C 0 0, Nat.le_refl _, rfl, a3, fun h => absurd h (Nat.lt_irrefl _)⟩, fun k => ?_⟩
      show (if s o 0 ≤ nI (C 0 0) then some (s o 0) else _) = _
      rw [r.1, if_pos (nI_le (Nat.le_refl _) (by omega))]
  obtain ⟨q, q1, pl, q2, q3, q4⟩ := key
  exact ⟨pl, q2, by rw [q1, q3], q4⟩
theorem behX_e {σ : Hp} {N o pl : Nat} {C : Cp} (r : RC σ o C) (b : BC C) (hN : 7 < N) (hp : pl ≤ C 0 0) (ha : ah1 C pl = true) (hs : pl < C 0 0 → C 2 (C 1 pl * 5 + 4) ≠ 1) : t_X0_warmBehind N o (nI pl) σ = some (nI (wbB C (C 0 0))) := by
  have hb := b.1
  unfold t_X0_warmBehind t_X0_warmBehind_6
  rw [bnd_e, nI_1]
  by_cases c : pl < C 0 0
  · have hk := hs c
    have w1 : ah1 C (pl + 1) = false := by show (ah1 C pl && C 2 (C 1 pl * 5 + 4) == 1) = false; rw [ha, Bool.true_and, beq_eq_false_iff_ne]; exact hk
    have w0 : wbB C (pl + 1) = 0 := by
      show (if ah1 C pl = false ∧ _ then _ else _) = _
      rw [if_neg (fun z => by rw [ha] at z; exact absurd z.1 (by decide))]; exact wbB_0 pl ha
    have := lr3 (R := Int32) (fun (k6 : Int32 → Int32 → Hp → Option Int32) (v2 : Int32) (v3 : Int32) (σ : Hp) => if (σ o 0) ≤ v3 then some v2 else Option.bind (t_X6_at (o + 1) 7 v3 σ) (fun r2 : Int32 => Option.bind (t_X0_isWhole o r2 σ) (fun r3 : Int32 => if r3 = 0 then t_X0_warmBehind_50 N o k6 v2 v3 σ else Option.bind (t_X0_isWarmEnough o r2 σ) (fun r4 : Int32 => if r4 = 0 then t_X0_warmBehind_50 N o k6 v2 v3 σ else Option.bind (t_X6_bit r2) (fun r5 : Int32 => bnd (v2 ||| r5) (fun x6 : Int32 => t_X0_warmBehind_50 N o k6 x6 v3 σ)))))) (fun i => nI (wbB C (pl + 1 + i))) (fun i => nI (pl + 1 + i)) (fun _ => σ) (C 0 0 - (pl + 1)) (some (nI (wbB C (C 0 0)))) ?_ ?_ N (by omega)
    · rw [show pl + 1 + 0 = pl + 1 from rfl, w0] at this; exact this
    · intro i hi k
      obtain ⟨p, hpp⟩ : ∃ p, pl + 1 + i = p := ⟨_, rfl⟩
      have hpn : p < C 0 0 := by omega
      have he7 : C 1 p < 7 := b.2.2.2.2.1 p (by omega)
      obtain ⟨k0, k1, k2, k3, k4⟩ := b.2.2.2.2.2 _ he7
      have hl := wbB_lt b p (by omega)
      have ap : ah1 C p = false := by rw [← hpp]; exact ah1_off w1 i
      have u : wbB C (p + 1) = if C 2 (C 1 p * 5 + 4) = 0 ∧ C 2 (C 1 p * 5) ≤ C 2 (C 1 p * 5 + 1) then wbB C p ||| 2 ^ C 1 p else wbB C p := by
        show (if ah1 C p = false ∧ _ then _ else _) = _
        by_cases z : C 2 (C 1 p * 5 + 4) = 0 ∧ C 2 (C 1 p * 5) ≤ C 2 (C 1 p * 5 + 1)
        · rw [if_pos z, if_pos ⟨ap, z⟩]
        · rw [if_neg z, if_neg (fun y => z y.2)]
      show (if σ o 0 ≤ nI (pl + 1 + i) then _ else _) = k (nI (wbB C (pl + 1 + (i + 1)))) (nI (pl + 1 + (i + 1))) σ
      unfold t_X0_warmBehind_50
      rw [show pl + 1 + (i + 1) = p + 1 by omega, hpp, u, r.1, if_neg (nI_ge hpn (by omega)), at_in (by omega) (by omega), r.2.2.1 _ (by omega), bind_s, isWhole_in he7, bind_s, r.2.2.2 _ (by omega), eq_nI (by omega) (by omega), if_ne, warm_e r b he7, bind_s, if_ne, bit_e, bind_s, (or_bit _ hl _ he7).1, bnd_e, bnd_e, bnd_e, nI_1]
      by_cases z1 : C 2 (C 1 p * 5 + 4) = 0
      · rw [if_pos z1]
        by_cases z2 : C 2 (C 1 p * 5) ≤ C 2 (C 1 p * 5 + 1)
        · rw [if_pos z2, if_pos ⟨z1, z2⟩]
        · rw [if_neg z2, if_neg (fun y => z2 y.2)]
      · rw [if_neg z1, if_neg (fun y => z1 y.1)]
    · intro k
      show (if σ o 0 ≤ nI (pl + 1 + (C 0 0 - (pl + 1))) then some (nI (wbB C (pl + 1 + (C 0 0 - (pl + 1))))) else _) = _
      rw [show pl + 1 + (C 0 0 - (pl + 1)) = C 0 0 by omega, r.1, if_pos (nI_le (Nat.le_refl _) (by omega))]
  · have e : pl = C 0 0 := by omega
    subst e
    obtain ⟨f, rfl⟩ : ∃ f, N = f + 1 := ⟨N - 1, by omega⟩
    show (if σ o 0 ≤ nI (C 0 0 + 1) then some (0 : Int32) else _) = _
    rw [r.1, if_pos (nI_le (by omega) (by omega)), wbB_0 _ ha]; rfl
theorem stopM_e {τ : Hp} {N : Nat} {C : Cp} (r : RW τ C) (b : BC C) (hN : 7 < N) : ∃ s, t_X7_findStop N τ = some s ∧ s 0 30 = stE C (C 0 0) ∧ s 0 31 = nI (wbB C (C 0 0)) ∧ (∀ a, a ≠ 0 → s a = τ a) ∧ ∀ j, j ≠ 30 → j ≠ 31 → s 0 j = τ 0 j := by
  have hb := b.1
  unfold t_X7_findStop t_X7_findStop_13
  rw [bnd_e, bnd_e]
  refine li2 _ (fun p (v : Int32) (s : Hp) => v = nI p ∧ s 0 30 = stE C p ∧ s 0 31 = nI (wbB C p) ∧ (∀ a, a ≠ 0 → s a = τ a) ∧ ∀ j, j ≠ 30 → j ≠ 31 → s 0 j = τ 0 j) (fun (s : Hp) => s 0 30 = stE C (C 0 0) ∧ s 0 31 = nI (wbB C (C 0 0)) ∧ (∀ a, a ≠ 0 → s a = τ a) ∧ ∀ j, j ≠ 30 → j ≠ 31 → s 0 j = τ 0 j) (C 0 0) ?_ ?_ N 0 _ (by omega) ⟨rfl, by rw [hs_k (by decide), hs_eq]; rfl, hs_eq, fun a ha => by simp (disch := omega) only [hs_o, hs_k], fun j h1 h2 => by rw [hs_k h2, hs_k h1]⟩
  · intro p v s hp ⟨a1, a2, a3, a4, a5⟩
    subst a1
    have ri := RW_i r
    have he7 : C 1 p < 7 := b.2.2.2.2.1 p (by omega)
    obtain ⟨x, hx⟩ : ∃ x, C 1 p = x := ⟨_, rfl⟩
    have d16 : τ 16 p = nI x := by rw [ri.2.2.1 p (by omega), hx]
    rw [hx] at he7
    obtain ⟨k0, k1, k2, k3, k4⟩ := b.2.2.2.2.2 x he7
    obtain ⟨d0, d1, d2, d3, d4⟩ := ri.2.2.2 x he7
    have hl := wbB_lt b p (by omega)
    have u1 : wbB C (p + 1) = if ah1 C p = false ∧ C 2 (x * 5 + 4) = 0 ∧ C 2 (x * 5) ≤ C 2 (x * 5 + 1) then wbB C p ||| 2 ^ x else wbB C p := by rw [← hx]; rfl
    have u2 : stE C (p + 1) = if ah1 C p = true then (if C 2 (x * 5 + 4) = 1 then (-6) else nI x) else stE C p := by rw [← hx]; rfl
    have c0 : s 0 0 = nI (C 0 0) := by rw [a5 0 (by decide) (by decide)]; exact ri.1
    refine Or.inr ⟨nI (p + 1), hset (hset s 0 31 (nI (wbB C (p + 1)))) 0 30 (stE C (p + 1)), ⟨rfl, hs_eq, by rw [hs_k (by decide), hs_eq], fun a ha => by rw [hs_o ha, hs_o ha]; exact a4 a ha, fun j h1 h2 => by rw [hs_k h1, hs_k h2]; exact a5 j h1 h2⟩, fun k => ?_⟩
    show (if s 0 0 ≤ nI p then _ else _) = _
    unfold t_X7_findStop_63 t_X7_findStop_64 t_X7_findStop_81 t_X7_findStop_107 t_X7_findStop_111
    rw [c0, if_neg (nI_ge hp (by omega)), gi_in (by omega) (by omega), nI_clamp (by omega), a4 16 (by decide), d16, bnd_e]
    have f31 : ∀ y : Int32, (hset s 0 31 y) 0 30 = stE C p := fun y => by rw [hs_k (by decide)]; exact a2
    have f5 : ∀ y : Int32, (hset s 0 31 y) 5 = τ 5 := fun y => by rw [hs_o (by decide)]; exact a4 5 (by decide)
    simp only [gi_in (k := x) (n := 7) he7 (by omega), nI_clamp (n := x) (by omega), a2, a3, bnd_e, f31, f5, a4 5 (show 5 ≠ 0 by decide), a4 2 (show 2 ≠ 0 by decide), a4 1 (show 1 ≠ 0 by decide), d0, d1, d4, or_z, nI_1, if_true, show ¬ (1 : Int32) = 0 by decide, if_false]
    rw [(or_bit _ hl x he7).1, lt_nI (by omega) (by omega), show (0 : Int32) = nI 0 from rfl, eq_nI (by omega) (by omega), show (1 : Int32) = nI 1 from rfl, eq_nI (a := C 2 (x * 5 + 4)) (b := 1) (by omega) (by omega), u1, u2]
    cases ha : ah1 C p
    · obtain ⟨y, hy, hys⟩ := stE_f b p (by omega) ha
      have g1 : ¬ nI y < nI 0 := nI_nlt (by omega) (by omega)
      have g2 : nI 0 ≤ nI y := nI_le (by omega) (by omega)
      rw [hys, if_neg g1, if_pos g2, if_pos g2, if_neg (show ¬ false = true by decide)]
      by_cases z1 : C 2 (x * 5 + 4) = 0
      · rw [if_pos z1]
        by_cases z2 : C 2 (x * 5 + 1) < C 2 (x * 5)
        · rw [if_pos z2, if_neg (fun z => by omega)]
        · rw [if_neg z2, if_pos ⟨rfl, z1, by omega⟩]
      · rw [if_neg z1, if_neg (fun z => z1 z.2.1)]
    · have hys := stE_t p ha
      have hw0 := wbB_0 p ha
      have g1 : (-6 : Int32) < nI 0 := by decide
      have g2 : ¬ nI 0 ≤ (-6 : Int32) := by decide
      rw [hys, if_pos g1, if_neg g2, if_neg (show ¬ (true = false ∧ C 2 (x * 5 + 4) = 0 ∧ C 2 (x * 5) ≤ C 2 (x * 5 + 1)) from fun z => absurd z.1 (by decide)), if_pos (rfl : true = true)]
      by_cases z : C 2 (x * 5 + 4) = 1
      · rw [if_pos z, if_pos z]
      · rw [if_neg z, if_neg z]
  · intro v s ⟨a1, a2, a3, a4, a5⟩
    subst a1
    refine ⟨s, ⟨a2, a3, a4, a5⟩, fun k => ?_⟩
    show (if s 0 0 ≤ nI (C 0 0) then _ else _) = _
    rw [a5 0 (by decide) (by decide), (RW_i r).1, if_pos (nI_le (Nat.le_refl _) (by omega))]
