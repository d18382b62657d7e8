theorem stateW_e {τ : Hp} {C : Cp} (h : RW τ C) {e w : Nat} (he : e < 7) (hw : w ≤ 2) : t_X7_stateOf (nI e) (nI w) τ = some (nI (C 2 (e * 5 + (if w = 0 then 1 else if w = 1 then 3 else 4)))) :=
  (show t_X7_stateOf (nI e) (nI w) τ = t_X7_stateOf (nI e) (nI w) (swm τ C) from rfl).trans (stateOf_e (RW_m h) he hw)
def RES (P : Nat → Nat) (n : Nat) (C : Cp) (m q : Nat) (t : Hp) : Prop := t 0 23 = nI (aH P n q) ∧ t 0 24 = nI (aN P n C q) ∧ (∀ e, e < n → t 17 e = aT P n C q e) ∧ t 0 26 = (if q < m then nI q else (-6)) ∧ t 0 27 = (if q < m then nI (why P n (aD P n C q) q) else (-6)) ∧ t 0 30 = stE (aD P n C q) n ∧ t 0 31 = nI (wbB (aD P n C q) n) ∧ (∀ e w, e < 7 → w ≤ 2 → t 19 (3 * e + w) = nI (aD P n C q 2 (e * 5 + (if w = 0 then 1 else if w = 1 then 3 else 4)))) ∧ t 0 20 = nI m ∧ (∀ p, p < C 0 0 → t 16 p = nI (C 1 p)) ∧ WArr P n t m
theorem refuse_e {P : Nat → Nat} {pn N : Nat} {τ : Hp} {C : Cp} (r : RM τ C) (b : BC C) (pm : PadM τ pn P) (hN : 60 < N) (hw : wF P (C 0 0) pn pn 0 false = (-6)) : ∃ m q τ', m ≤ pn ∧ ps P (C 0 0) m = pn ∧ (∀ k, k < m → vld P (C 0 0) k) ∧ stopAt P (C 0 0) C m q ∧ t_X7_refusal N τ = some (if q < m then (-3) else (-6), τ') ∧ MW τ τ' ∧ RES P (C 0 0) C m q τ' := by
  have hb := b.1
  obtain ⟨n, hn⟩ : ∃ n, C 0 0 = n := ⟨_, rfl⟩
  obtain ⟨τ1, e1, f1, w1⟩ := weekM_e r b pm hN
  obtain ⟨m, m20, m21, mps, mle, marr⟩ := w1 hw
  have mf1 := WFr_MF f1
  have r1 := MF_RM mf1 r
  obtain ⟨τ3, e3, k2, k3, k4⟩ := keepNow_e (N := N) (τ := SA τ1 16 (fun i => τ1 6 i) 7) (by omega)
  have hn7 : n ≤ 7 := by omega
  have rw3 : RW τ3 C := RW_fr (lay_RW r1 b) (fun a _ _ => k2 a (by omega)) (k2 16 (by omega)) (by rw [k2 0 (by omega)]) (by rw [k2 0 (by omega)])
  have mk3 : MK τ1 τ3 := by
    refine ⟨fun a ha => by rw [k2 a (by omega), SA_o (by omega)], fun i hi => ?_, ?_, ?_, ?_, ?_, ?_⟩
    · have := k3 i hi
      rw [SA_o (by decide), SA_o (by decide), SA_o (by decide)] at this; exact this
    · rw [k4, SA_o (by decide)]
    · rw [k2 0 (by decide), SA_o (by decide)]
    · rw [k2 0 (by decide), SA_o (by decide)]
    · rw [k2 0 (by decide), SA_o (by decide)]
    · rw [k2 0 (by decide), SA_o (by decide)]
  have hp := pm.2.1
  obtain ⟨q, hq⟩ := stop_ex P n C m
  have arr3 : WArr P n τ3 m := by
    rw [hn] at marr
    exact WArr_fr marr (by rw [k2 13 (by decide), SA_o (by decide)]) (by rw [k2 14 (by decide), SA_o (by decide)]) (by rw [k2 15 (by decide), SA_o (by decide)])
  have hv : ∀ k, k < m → vld P n k := fun k hk => (arr3 k hk).1
  obtain ⟨s4, e4, g1, g2, g3, g4, g5, g6, g7, g8⟩ := goWeek_e (N := N) (t := τ3) (m := m) (q := q) (P := P) rw3 b hn hN (by omega) (by rw [k2 0 (by decide), SA_o (by decide)]; exact m20) arr3 hq
  have bq := BC_aD (D0 := C) hn7 b hv q hq.1
  have q0 : aD P n C q 0 0 = n := (aD_o (by omega) (by omega) q).trans hn
  have mk4 : MK τ1 s4 := MK_fr mk3 (fun a h0 h2 h4 h5 h => g7 a h0 h2 h4 h5 (by omega)) (g8 0 (by decide) (by decide) (by decide) (by decide) (by decide)) (g8 11 (by decide) (by decide) (by decide) (by decide) (by decide)) (g8 14 (by decide) (by decide) (by decide) (by decide) (by decide)) (g8 16 (by decide) (by decide) (by decide) (by decide) (by decide))
  have key : ∃ z : Int32 × Hp, t_X7_refusal_24 N N 0 s4 = some z ∧ (z.1 = (if q < m then (-3) else (-6)) ∧ MW τ1 z.2 ∧ RES P n C m q z.2) := by
    unfold t_X7_refusal_24
    refine li2 _ (fun i v s => v = nI i ∧ (∀ j, j < i → s 19 j = nI (aD P n C q 2 (j / 3 * 5 + (if j % 3 = 0 then 1 else if j % 3 = 1 then 3 else 4)))) ∧ ∀ a, a ≠ 19 → s a = s4 a) _ 21 ?_ ?_ N 0 s4 (by omega) ⟨rfl, fun j hj => absurd hj (Nat.not_lt_zero j), fun _ _ => rfl⟩
    · intro i v s hi ⟨a1, a2, a3⟩
      subst a1
      have rs : RW s (aD P n C q) := RW_fr g1 (fun a _ _ => a3 a (by omega)) (a3 16 (by decide)) (by rw [a3 0 (by decide)]) (by rw [a3 0 (by decide)])
      refine Or.inr ⟨nI (i + 1), hset s 19 i (nI (aD P n C q 2 (i / 3 * 5 + (if i % 3 = 0 then 1 else if i % 3 = 1 then 3 else 4)))), ⟨rfl, fun j hj => ?_, fun a ha => by rw [hs_o ha]; exact a3 a ha⟩, fun k => ?_⟩
      · by_cases c : j = i
        · subst c; rw [hs_eq]
        · rw [hs_k c]; exact a2 j (by omega)
      · show (if (21 : Int32) ≤ nI i then _ else _) = _
        rw [if_neg (show ¬ (21 : Int32) ≤ nI i from nI_ge (a := i) (b := 21) hi (by omega)), show (3 : Int32) = nI 3 from rfl, pk_rem (by omega) (by omega) (by omega), pk_div (by omega) (by omega) (by omega), stateW_e rs (by omega) (by omega), bind_s, gi_in (by omega) (by omega), nI_clamp (by omega), bnd_e, bnd_e, nI_1]
    · intro v s ⟨a1, a2, a3⟩
      subst a1
      have rs : RW s (aD P n C q) := RW_fr g1 (fun a _ _ => a3 a (by omega)) (a3 16 (by decide)) (by rw [a3 0 (by decide)]) (by rw [a3 0 (by decide)])
      obtain ⟨s6, e6, y30, y31, ya, yj⟩ := stopM_e (N := N) rs bq (by omega)
      rw [q0] at y30 y31
      have s60 : ∀ j, j ≠ 30 → j ≠ 31 → s6 0 j = s4 0 j := fun j h1 h2 => by rw [yj j h1 h2, a3 0 (by decide)]
      have s6a : ∀ a, a ≠ 0 → a ≠ 19 → s6 a = s4 a := fun a h1 h2 => by rw [ya a h1, a3 a h2]
      have mk6 : MK τ1 s6 := MK_fr mk4 (fun a h0 h2 h4 h5 h => s6a a h0 (by omega)) (s60 0 (by decide) (by decide)) (s60 11 (by decide) (by decide)) (s60 14 (by decide) (by decide)) (s60 16 (by decide) (by decide))
      obtain ⟨s7, e7, mw7, za, zj⟩ := putBack_e (N := N) (by omega) mk6
      have c26 : s7 0 26 = (if q < m then nI q else (-6)) := by rw [zj 26 (by decide), s60 26 (by decide) (by decide)]; exact g5
      have res : RES P n C m q s7 := by
        refine ⟨?_, ?_, fun e he => ?_, c26, ?_, ?_, ?_, fun e w he hw => ?_, ?_, fun p hp => ?_, ?_⟩
        · rw [zj 23 (by decide), s60 23 (by decide) (by decide)]; exact g2
        · rw [zj 24 (by decide), s60 24 (by decide) (by decide)]; exact g3
        · rw [za 17 (by decide) (by decide) (by decide) (by decide), s6a 17 (by decide) (by decide)]; exact g4 e he
        · rw [zj 27 (by decide), s60 27 (by decide) (by decide)]; exact g6
        · rw [zj 30 (by decide)]; exact y30
        · rw [zj 31 (by decide)]; exact y31
        · rw [za 19 (by decide) (by decide) (by decide) (by decide), ya 19 (by decide), a2 (3 * e + w) (by omega), show (3 * e + w) / 3 = e by omega, show (3 * e + w) % 3 = w by omega]
        · rw [zj 20 (by decide), s60 20 (by decide) (by decide), g8 20 (by decide) (by decide) (by decide) (by decide) (by decide), k2 0 (by decide), SA_o (by decide)]; exact m20
        · rw [za 16 (by decide) (by decide) (by decide) (by decide), s6a 16 (by decide) (by decide), g7 16 (by decide) (by decide) (by decide) (by decide) (by decide)]; exact (RW_i rw3).2.2.1 p hp
        · exact WArr_fr arr3 (by rw [za 13 (by decide) (by decide) (by decide) (by decide), s6a 13 (by decide) (by decide), g7 13 (by decide) (by decide) (by decide) (by decide) (by decide)]) (by rw [za 14 (by decide) (by decide) (by decide) (by decide), s6a 14 (by decide) (by decide), g7 14 (by decide) (by decide) (by decide) (by decide) (by decide)]) (by rw [za 15 (by decide) (by decide) (by decide) (by decide), s6a 15 (by decide) (by decide), g7 15 (by decide) (by decide) (by decide) (by decide) (by decide)])
      refine ⟨(if q < m then (-3) else (-6), s7), ⟨rfl, mw7, res⟩, fun k => ?_⟩
      refine (if_pos (show (21 : Int32) ≤ nI 21 by decide)).trans ?_
      rw [e6, bind_s, e7, bind_s, c26]
      by_cases c : q < m
      · rw [if_pos c, if_pos c, if_neg (nI_pos (by omega))]
      · rw [if_neg c, if_neg c, if_pos (by decide)]
  obtain ⟨⟨z, s⟩, z1, z2, z3, z4⟩ := key
  rw [hn] at mps ⊢
  refine ⟨m, q, s, mle, mps, hv, hq, ?_, MW_MF mf1 z3, z4⟩
  unfold t_X7_refusal
  rw [e1, b2_s, hw, if_pos (show (-6 : Int32) < 0 by decide), layOrder_e (by omega), bind_s, e3, bind_s, e4, bind_s, z1]
  exact congrArg (fun x => some (x, s)) z2
theorem pair_e {N : Nat} {σ τ : Hp} (hN : 60 < N) (hR : Rl σ τ) : (∃ τ', t_X5_run N σ = some ((-5), σ) ∧ t_X7_refusal N τ = some ((-5), τ') ∧ Rl σ τ') ∨ ∃ (C : Cp) (P : Nat → Nat) (n m q : Nat) (σ' τ' : Hp), BC C ∧ C 0 0 = n ∧ m ≤ 60 ∧ RC σ 2 C ∧ RM τ C ∧ (∀ k, k < m → vld P n k) ∧ stopAt P n C m q ∧ t_X5_run N σ = some (if q < m then (-3) else 0, σ') ∧ SX P n C σ q (wyQ P n C m q) σ' ∧ t_X7_refusal N τ = some (if q < m then (-3) else (-6), τ') ∧ MW τ τ' ∧ RES P n C m q τ' ∧ Rl σ' τ' := by
  obtain ⟨C, H, pn, P, h1, h2, h3, h4, h5, h6, h7, h8, h9⟩ := id hR
  have hb := h3.1
  have px := RP_X h7
  have pm := RP_M h7
  have wx := weekX_e (n := C 0 0) px hb.2 hN
  rcases wF_v (P := P) (n := C 0 0) px.2.1 pn 0 false (by omega) with hw | ⟨k, hk, hw⟩
  · refine Or.inr ?_
    obtain ⟨m, q, τ', a1, a2, a3, a4, a5, a6, a7⟩ := refuse_e h2 h3 pm hN hw
    obtain ⟨σ', b1, b2⟩ := runX_e (N := N) px h1 h3 rfl hN a3 a2 a4 hw
    have hp := px.2.1
    exact ⟨C, P, C 0 0, m, q, σ', τ', h3, rfl, by omega, h1, h2, a3, a4, b1, b2, a5, a6, a7, Rl_w hR b2.2.2.2.2.2.2 a6⟩
  · refine Or.inl ?_
    obtain ⟨τ1, e1, f1, _⟩ := weekM_e h2 h3 pm hN
    refine ⟨τ1, ?_, ?_, Rl_fr hR XF_rf (WFr_MF f1)⟩
    · unfold t_X5_run
      rw [h1.1, wx, bind_s, hw, if_neg (m6_ne (by omega))]
    · unfold t_X7_refusal
      rw [e1, b2_s, hw, if_neg (nI_pos (by omega))]
theorem m5_0 : ¬ (-5 : Int32) = 0 := by decide
theorem m5_6 : ¬ (-5 : Int32) = (-6) := by decide
theorem m3_0 : ¬ (-3 : Int32) = 0 := by decide
theorem m3_6 : ¬ (-3 : Int32) = (-6) := by decide
theorem m3_5 : ¬ (-3 : Int32) = (-5) := by decide
theorem k_judge {N : Nat} (hN : 60 < N) {σ τ : Hp} (hR : Rl σ τ) (p0 : Int32) : ∃ r : Int32, ∃ σ1 : Hp, ∃ τ1 : Hp, t_X6_judge N p0 σ = some (r, σ1) ∧ t_X7_judge N p0 τ = some (r, τ1) ∧ Rl σ1 τ1 := by
  unfold t_X6_judge t_X7_judge
  rw [isWithin_e, in_l (a := 0) (b := 3) 0 3 rfl rfl, bind_s, bind_s]
  by_cases hq : p0 < 0 ∨ 3 < p0
  · rw [ite_0 hq, ite_0 hq]; exact ⟨_, _, _, rfl, rfl, hR⟩
  obtain ⟨w, hw, rfl⟩ := rng_c (p := p0) (m := 3) (by decide) hq
  rw [ite_1 hq, ite_1 hq]
  rcases pair_e hN hR with ⟨τ', e1, e2, e3⟩ | ⟨C, P, n, m, q, σ', τ', b, b0, hm, r1, r2, hv, hs, e1, sx, e2, mw, rs, e3⟩
  · rw [e1, e2, b2_s, b2_s, if_pos (rfl : (-5 : Int32) = -5), if_pos (rfl : (-5 : Int32) = -5)]; exact ⟨_, _, _, rfl, rfl, e3⟩
  rw [e1, e2, b2_s, b2_s, show (2 : Int32) = nI 2 from rfl, lt_nI (by omega) (by omega), show (1 : Int32) = nI 1 from rfl, le_nI (by omega) (by omega)]
  obtain ⟨x1, x2, x3, x4, x5, x6, x7⟩ := sx
  obtain ⟨y1, y2, y3, y4, y5, y6, y7, y8, y9, y10, y11⟩ := rs
  have hwl := why_le P n (aD P n C q) q
  unfold t_X6_judge_50 t_X7_judge_39
  rw [x2, x3, x4, x5, y1, y2, y4, y5]
  by_cases c : q < m
  · have hz := hs.2.2 c
    have hwy : wyQ P n C m q = why P n (aD P n C q) q := if_pos c
    simp only [if_pos c, if_neg m3_5, if_pos (rfl : (-3 : Int32) = -3), hwy, if_neg (nI_ne0 (show 0 < why P n (aD P n C q) q by omega) (by omega))]
    rcases (show w = 0 ∨ w = 1 ∨ w = 2 ∨ w = 3 by omega) with rfl | rfl | rfl | rfl
    · exact ⟨_, _, _, rfl, rfl, e3⟩
    · exact ⟨_, _, _, rfl, rfl, e3⟩
    · exact ⟨_, _, _, rfl, rfl, e3⟩
    · exact ⟨_, _, _, rfl, rfl, e3⟩
  · have hwy : wyQ P n C m q = 0 := if_neg c
    simp only [if_neg c, hwy]
    rcases (show w = 0 ∨ w = 1 ∨ w = 2 ∨ w = 3 by omega) with rfl | rfl | rfl | rfl
    · exact ⟨_, _, _, rfl, rfl, e3⟩
    · exact ⟨_, _, _, rfl, rfl, e3⟩
    · exact ⟨_, _, _, rfl, rfl, e3⟩
    · exact ⟨_, _, _, rfl, rfl, e3⟩
theorem k_behind {N : Nat} (hN : 60 < N) {σ τ : Hp} (hR : Rl σ τ) (p0 p1 : Int32) : ∃ r : Int32, ∃ σ1 : Hp, ∃ τ1 : Hp, t_X6_behind N p0 p1 σ = some (r, σ1) ∧ t_X7_behind N p0 p1 τ = some (r, τ1) ∧ Rl σ1 τ1 := by
  obtain ⟨C0, H, pn, P0, h1, h2, h3, h4, h5, h6, h7, h8, h9⟩ := id hR
  have hb := h3.1
  unfold t_X6_behind t_X7_behind
  rw [has_e h1, isEgg_e h2 h3, bind_s, bind_s]
  by_cases hq : p0 < 0 ∨ nI (C0 0 0) ≤ p0
  · rw [ite_0 hq, ite_0 hq]; exact ⟨_, _, _, rfl, rfl, hR⟩
  obtain ⟨e, he, rfl⟩ := egg_c (n := C0 0 0) hb.2 hq
  rw [ite_1 hq, ite_1 hq, isWithin_e, in_l (a := 0) (b := 2) 0 2 rfl rfl, bind_s, bind_s]
  by_cases hq2 : p1 < 0 ∨ 2 < p1
  · rw [ite_0 hq2, ite_0 hq2]; exact ⟨_, _, _, rfl, rfl, hR⟩
  obtain ⟨w, hw, rfl⟩ := rng_c (p := p1) (m := 2) (by decide) hq2
  rw [ite_1 hq2, ite_1 hq2]
  rcases pair_e hN hR with ⟨τ', e1, e2, e3⟩ | ⟨C, P, n, m, q, σ', τ', b, b0, hm, r1, r2, hv, hs, e1, sx, e2, mw, rs, e3⟩
  · rw [e1, e2, b2_s, b2_s, if_neg m5_0, if_neg m5_6]; exact ⟨_, _, _, rfl, rfl, e3⟩
  obtain ⟨y1, y2, y3, y4, y5, y6, y7, y8, y9, y10, y11⟩ := rs
  rw [e1, e2, b2_s, b2_s]
  by_cases c : q < m
  · simp only [if_pos c, if_neg m3_0, if_neg m3_6]; exact ⟨_, _, _, rfl, rfl, e3⟩
  · simp only [if_neg c, if_true]
    rw [condition_e sx.1 (by omega) hw, bind_s, show (3 : Int32) = nI 3 from rfl, pk_mul, nI_add, gi_in (by omega) (by omega), nI_clamp (by omega), y8 e w (by omega) hw]
    exact ⟨_, _, _, rfl, rfl, e3⟩
theorem k_hatched {N : Nat} (hN : 60 < N) {σ τ : Hp} (hR : Rl σ τ) (p0 : Int32) : ∃ r : Int32, ∃ σ1 : Hp, ∃ τ1 : Hp, t_X6_hatched N p0 σ = some (r, σ1) ∧ t_X7_hatched N p0 τ = some (r, τ1) ∧ Rl σ1 τ1 := by
  obtain ⟨C0, H, pn, P0, h1, h2, h3, h4, h5, h6, h7, h8, h9⟩ := id hR
  have hb := h3.1
  unfold t_X6_hatched t_X7_hatched
  rw [has_e h1, isEgg_e h2 h3, bind_s, bind_s]
  by_cases hq : p0 < 0 ∨ nI (C0 0 0) ≤ p0
  · rw [ite_0 hq, ite_0 hq]; exact ⟨_, _, _, rfl, rfl, hR⟩
  obtain ⟨e, he, rfl⟩ := egg_c (n := C0 0 0) hb.2 hq
  rw [ite_1 hq, ite_1 hq]
  rcases pair_e hN hR with ⟨τ', e1, e2, e3⟩ | ⟨C, P, n, m, q, σ', τ', b, b0, hm, r1, r2, hv, hs, e1, sx, e2, mw, rs, e3⟩
  · rw [e1, e2, b2_s, b2_s, if_neg m5_0, if_neg m5_6]; exact ⟨_, _, _, rfl, rfl, e3⟩
  obtain ⟨x1, x2, x3, x4, x5, x6, x7⟩ := sx
  obtain ⟨y1, y2, y3, y4, y5, y6, y7, y8, y9, y10, y11⟩ := rs
  have hen : e < n := by
    have a := h1.1
    rw [r1.1] at a
    have := (nI_eq (by have := b.1; omega) (by omega)).mp a
    omega
  rw [e1, e2, b2_s, b2_s]
  by_cases c : q < m
  · simp only [if_pos c, if_neg m3_0, if_neg m3_6]; exact ⟨_, _, _, rfl, rfl, e3⟩
  · simp only [if_neg c, if_true]
    rw [at_in (by omega) (by omega), bind_s, gi_in (by omega) (by omega), nI_clamp (by omega), x6 e (by omega), y3 e hen]
    exact ⟨_, _, _, rfl, rfl, e3⟩
theorem k_stops {N : Nat} (hN : 60 < N) {σ τ : Hp} (hR : Rl σ τ) (p0 : Int32) : ∃ r : Int32, ∃ σ1 : Hp, ∃ τ1 : Hp, t_X6_stops N p0 σ = some (r, σ1) ∧ t_X7_stops N p0 τ = some (r, τ1) ∧ Rl σ1 τ1 := by
  unfold t_X6_stops t_X7_stops
  rw [isWithin_e, in_l (a := 0) (b := 1) 0 1 rfl rfl, bind_s, bind_s]
  by_cases hq : p0 < 0 ∨ 1 < p0
  · rw [ite_0 hq, ite_0 hq]; exact ⟨_, _, _, rfl, rfl, hR⟩
  obtain ⟨w, hw, rfl⟩ := rng_c (p := p0) (m := 1) (by decide) hq
  rw [ite_1 hq, ite_1 hq]
  rcases pair_e hN hR with ⟨τ', e1, e2, e3⟩ | ⟨C, P, n, m, q, σ', τ', b, b0, hm, r1, r2, hv, hs, e1, sx, e2, mw, rs, e3⟩
  · rw [e1, e2, b2_s, b2_s, if_neg m5_0, if_neg m5_6]; exact ⟨_, _, _, rfl, rfl, e3⟩
  obtain ⟨x1, x2, x3, x4, x5, x6, x7⟩ := sx
  obtain ⟨y1, y2, y3, y4, y5, y6, y7, y8, y9, y10, y11⟩ := rs
  rw [e1, e2, b2_s, b2_s]
  by_cases c : q < m
  · simp only [if_pos c, if_neg m3_0, if_neg m3_6]; exact ⟨_, _, _, rfl, rfl, e3⟩
  simp only [if_neg c, if_true]
  have hn7 : n ≤ 7 := by have := b.1; omega
  have bq := BC_aD (D0 := C) hn7 b hv q hs.1
  have q0 : aD P n C q 0 0 = n := (aD_o (by omega) (by omega) q).trans b0
  obtain ⟨D, hD⟩ : ∃ D, aD P n C q = D := ⟨_, rfl⟩
  rw [hD] at x1 bq q0 y6 y7
  obtain ⟨pl, p1, p2, p3, p4⟩ := stopX_e (N := N) x1 bq (by omega)
  rw [q0] at p1 p4
  rw [p2, bind_s, behX_e x1 bq (by omega) (by omega) p3 (by rw [q0]; exact p4), bind_s, q0, y6, y7]
  rcases (show w = 0 ∨ w = 1 by omega) with rfl | rfl
  · rw [if_neg (show ¬ nI 0 = (1 : Int32) by decide), if_pos (show nI 0 = (0 : Int32) from rfl), x1.1, q0, le_nI (by omega) (by omega)]
    by_cases cp : pl < n
    · have w1 : ah1 D (pl + 1) = false := by show (ah1 D pl && D 2 (D 1 pl * 5 + 4) == 1) = false; rw [p3, Bool.true_and, beq_eq_false_iff_ne]; exact p4 cp
      have w2 : stE D n = nI (D 1 pl) := by
        have := stE_off w1 (n - (pl + 1))
        rw [show pl + 1 + (n - (pl + 1)) = n by omega] at this
        rw [this]
        show (if ah1 D pl = true then (if D 2 (D 1 pl * 5 + 4) = 1 then (-6) else nI (D 1 pl)) else stE D pl) = _
        rw [if_pos p3, if_neg (p4 cp)]
      rw [if_neg (by omega), at_in (by omega) (by omega), bind_s, x1.2.2.1 pl (by omega), w2]
      exact ⟨_, _, _, rfl, rfl, e3⟩
    · have w2 : stE D n = (-6) := stE_t n (by rw [show n = pl by omega]; exact p3)
      rw [if_pos (by omega), w2]
      exact ⟨_, _, _, rfl, rfl, e3⟩
  · rw [if_pos (show nI 1 = (1 : Int32) from rfl), if_neg (show ¬ nI 1 = (0 : Int32) by decide)]
    exact ⟨_, _, _, rfl, rfl, e3⟩
theorem k_done {N : Nat} (hN : 60 < N) {σ τ : Hp} (hR : Rl σ τ) : ∃ r : Int32, ∃ σ1 : Hp, ∃ τ1 : Hp, t_X6_done N σ = some (r, σ1) ∧ t_X7_done N τ = some (r, τ1) ∧ Rl σ1 τ1 := by
  unfold t_X6_done t_X7_done
  rcases pair_e hN hR with ⟨τ', e1, e2, e3⟩ | ⟨C, P, n, m, q, σ', τ', b, b0, hm, r1, r2, hv, hs, e1, sx, e2, mw, rs, e3⟩
  · rw [e1, e2, b2_s, b2_s, if_neg m5_0, if_neg m5_6]; exact ⟨_, _, _, rfl, rfl, e3⟩
  obtain ⟨x1, x2, x3, x4, x5, x6, x7⟩ := sx
  obtain ⟨y1, y2, y3, y4, y5, y6, y7, y8, y9, y10, y11⟩ := rs
  rw [e1, e2, b2_s, b2_s]
  by_cases c : q < m
  · simp only [if_pos c, if_neg m3_0, if_neg m3_6]; exact ⟨_, _, _, rfl, rfl, e3⟩
  simp only [if_neg c, if_true]
  have hqm : q = m := by have := hs.1; omega
  subst hqm
  have hn7 : n ≤ 7 := by have := b.1; omega
  have bq := BC_aD (D0 := C) hn7 b hv q hs.1
  have q0 : aD P n C q 0 0 = n := (aD_o (by omega) (by omega) q).trans b0
  obtain ⟨s2, d1, d2, d3, d4⟩ := coopCopy_e (σ := σ') (N := N) (o := 2) (o2 := 34) (by omega) (by omega)
  have rm' := MW_RM mw r2
  have rw' : RW τ' C := RW_of ⟨rm'.1, rm'.2.1, y10, rm'.2.2.2⟩
  obtain ⟨s, g0, g1, g2, g3, g4, g5, g6, g7, g8⟩ := goWeek_e (N := N) (t := τ') (m := q) (q := q) (P := P) rw' b b0 hN hm y9 y11 hs
  obtain ⟨C0, H, pn, P0, h1, h2, h3, h4, h5, h6, h7, h8, h9⟩ := id hR
  obtain ⟨m1, m2, m3, m4, m5, m6, m7⟩ := id mw
  have hn0 : C0 0 0 = n := by
    have a := h1.1
    rw [r1.1, b0] at a
    have := (nI_eq (by omega) (by have := h3.1; omega)).mp a
    omega
  have sa : ∀ a, (a = 1 ∨ a = 3 ∨ (6 ≤ a ∧ a ≤ 12) ∨ a = 25 ∨ a = 26) → s a = τ a := fun a ha => (g7 a (by omega) (by omega) (by omega) (by omega) (by omega)).trans (m1 a ha)
  rw [d1, bind_s, bnd_e, g0, bind_s, bnd_e, hs_o (by decide), d2 33 (by decide) (by decide) (by decide), x2, hs_k (by decide), g8 20 (by decide) (by decide) (by decide) (by decide) (by decide), y9]
  have ri := RW_i g1
  refine ⟨_, _, _, rfl, rfl, aD P n C q, H, 0, P0, ?_, ?_, bq, ?_, ?_, ?_, ?_, ?_, ?_⟩
  · exact RC_f (d4 _ x1) (fun a _ _ => by simp (disch := omega) only [hs_o, hs_k])
  · refine ⟨by rw [hs_k (by decide)]; exact ri.1, by rw [hs_k (by decide)]; exact ri.2.1, fun p hp => ?_, fun e he => ?_⟩
    · rw [hs_o (by decide), sa 6 (by omega), aD_o (by omega) (by omega)]; exact r2.2.2.1 p hp
    · rw [hs_o (by decide), hs_o (by decide), hs_o (by decide), hs_o (by decide), hs_o (by decide)]; exact ri.2.2.2 e he
  · exact RH_f h4 (fun a _ _ => by rw [hs_o (by omega), d2 a (by omega) (by omega) (by omega)]; exact x7 a (by omega))
  · exact RN_f h5 (fun a _ _ => by rw [hs_o (by omega)]; exact sa a (by omega)) (by rw [hs_k (by decide), g8 11 (by decide) (by decide) (by decide) (by decide) (by decide)]; exact m5) (by rw [hs_k (by decide), g8 14 (by decide) (by decide) (by decide) (by decide) (by decide)]; exact m6)
  · rw [q0, ← hn0]; exact h6
  · refine ⟨by rw [hs_eq]; rfl, by rw [hs_eq]; rfl, by omega, fun i hi => ?_⟩
    rw [hs_o (by decide), d2 32 (by decide) (by decide) (by decide), x7 32 (by decide), hs_o (by decide), sa 12 (by omega)]; exact h7.2.2.2 i hi
  · exact RI_fr h8 (fun a _ _ => by rw [hs_o (by omega), d2 a (by omega) (by omega) (by omega)]; exact x7 a (by omega)) (by rw [hs_o (by decide)]; exact sa 25 (by omega)) (by rw [hs_o (by decide)]; exact sa 26 (by omega))
  · exact RI_fr h9 (fun a _ _ => by rw [hs_o (by omega), d2 a (by omega) (by omega) (by omega)]; exact x7 a (by omega)) (by rw [hs_o (by decide)]; exact sa 25 (by omega)) (by rw [hs_o (by decide)]; exact sa 26 (by omega))
