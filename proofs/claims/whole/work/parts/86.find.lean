/-! both look for orders that fit -/
theorem alw_all {C : Cp} : ∀ n, alw C n = true ↔ ∀ e, e < n → C 2 (e * 5 + 4) = 0
  | 0 => ⟨fun _ e he => absurd he (Nat.not_lt_zero e), fun _ => rfl⟩
  | n + 1 => by
    show (alw C n && (C 2 (n * 5 + 4) == 0)) = true ↔ _
    rw [Bool.and_eq_true, beq_iff_eq, alw_all n]
    constructor
    · intro ⟨h1, h2⟩ e he
      by_cases c : e = n
      · subst c; exact h2
      · exact h1 e (by omega)
    · intro h
      exact ⟨fun e he => h e (by omega), h n (by omega)⟩
def emA (P : Nat → Nat) : Nat → Bool
  | 0 => false
  | i + 1 => emA P i || (P i == 33 || P i == 43)
theorem emA_iff {P : Nat → Nat} : ∀ k, emA P k = true ↔ ∃ i, i < k ∧ (P i = 33 ∨ P i = 43)
  | 0 => ⟨fun h => absurd (show false = true from h) (by decide), fun ⟨i, h, _⟩ => absurd h (Nat.not_lt_zero i)⟩
  | k + 1 => by
    show (emA P k || (P k == 33 || P k == 43)) = true ↔ _
    rw [Bool.or_eq_true, Bool.or_eq_true, beq_iff_eq, beq_iff_eq, emA_iff k]
    constructor
    · rintro (⟨i, h1, h2⟩ | h)
      · exact ⟨i, by omega, h2⟩
      · exact ⟨k, by omega, h⟩
    · rintro ⟨i, h1, h2⟩
      by_cases c : i = k
      · subst c; exact Or.inr h2
      · exact Or.inl ⟨i, by omega, h2⟩
theorem eoms_e {σ : Hp} {N pn : Nat} {P : Nat → Nat} (h : PadX σ pn P) (hN : 60 < N) : t_X3_eatsOrMends N σ = some (bI (emA P pn)) := by
  have hp := h.2.1
  have key : ∃ z : Int32, t_X3_eatsOrMends N σ = some z ∧ z = bI (emA P pn) := by
    unfold t_X3_eatsOrMends t_X3_eatsOrMends_2
    refine li2 _ (fun i (v : Int32) (s : Hp) => v = nI i ∧ s = σ ∧ emA P i = false) _ pn ?_ ?_ N 0 σ (by omega) ⟨rfl, rfl, rfl⟩
    · intro i v s hi ⟨a1, a2, a3⟩
      subst a1; subst a2
      have fr : ∀ k : Int32 → Hp → Option Int32, (if (s 31 0) ≤ (nI i) then some 0 else Option.bind (t_X3_eatsOrMendsAt (nI i) s) (fun r1 : Int32 => if r1 = 0 then bnd ((nI i) + 1) (fun x2 : Int32 => k x2 s) else some 1)) = if (P i == 33 || P i == 43) = true then some 1 else k (nI (i + 1)) s := fun k => by
        rw [h.1, if_neg (nI_ge hi (by omega)), eoma_e h (by omega), bind_s, bI_0, bnd_e, nI_1]
      by_cases c : (P i == 33 || P i == 43) = true
      · refine Or.inl ⟨1, ?_, fun k => (fr k).trans (if_pos c)⟩
        have : emA P pn = true := (emA_iff pn).mpr ⟨i, hi, by rw [Bool.or_eq_true, beq_iff_eq, beq_iff_eq] at c; exact c⟩
        rw [this]; rfl
      · exact Or.inr ⟨nI (i + 1), s, ⟨rfl, rfl, by show (emA P i || (P i == 33 || P i == 43)) = false; rw [a3, Bool.false_or]; simpa using c⟩, fun k => (fr k).trans (if_neg c)⟩
    · intro v s ⟨a1, a2, a3⟩
      subst a1; subst a2
      refine ⟨0, by rw [a3]; rfl, fun k => ?_⟩
      show (if s 31 0 ≤ nI pn then some 0 else _) = _
      rw [h.1, if_pos (nI_le (Nat.le_refl _) (by omega))]
  obtain ⟨z, z1, z2⟩ := key
  rw [z1, z2]
theorem mar_iff {P : Nat → Nat} {n : Nat} : ∀ m, mar P n m = true ↔ ∃ k, k < m ∧ 3 ≤ kd P n k
  | 0 => ⟨fun h => absurd (show false = true from h) (by decide), fun ⟨i, h, _⟩ => absurd h (Nat.not_lt_zero i)⟩
  | m + 1 => by
    show (mar P n m || decide (3 ≤ kd P n m)) = true ↔ _
    rw [Bool.or_eq_true, decide_eq_true_iff, mar_iff m]
    constructor
    · rintro (⟨i, h1, h2⟩ | h)
      · exact ⟨i, by omega, h2⟩
      · exact ⟨m, by omega, h⟩
    · rintro ⟨i, h1, h2⟩
      by_cases c : i = m
      · subst c; exact Or.inr h2
      · exact Or.inl ⟨i, by omega, h2⟩
theorem ps_cut {P : Nat → Nat} {n i : Nat} : ∀ m, i < ps P n m → ∃ k, k < m ∧ ps P n k ≤ i ∧ i < ps P n (k + 1)
  | 0, h => absurd h (Nat.not_lt_zero i)
  | m + 1, h => by
    by_cases c : i < ps P n m
    · obtain ⟨k, h1, h2⟩ := ps_cut m c
      exact ⟨k, by omega, h2⟩
    · exact ⟨m, by omega, by omega, h⟩
theorem mar_em {P : Nat → Nat} {n m pn : Nat} (hn : n ≤ 7) (hm : ps P n m = pn) (hv : ∀ k, k < m → vld P n k) : mar P n m = emA P pn := by
  rw [Bool.eq_iff_iff, mar_iff, emA_iff]
  constructor
  · rintro ⟨k, h1, h2⟩
    have lt := ps_lt hm h1
    rcases act_cs hn (hv k h1) with ⟨c, _⟩ | ⟨c, _⟩ | ⟨_, _, _, c4, c5⟩
    · omega
    · omega
    · refine ⟨ps P n k + 1, by omega, ?_⟩
      rcases c5 with ⟨c, _⟩ | ⟨_, c⟩ | ⟨_, c⟩
      · omega
      · exact Or.inl c
      · exact Or.inr c
  · rintro ⟨i, h1, h2⟩
    rw [← hm] at h1
    obtain ⟨k, k1, k2, k3⟩ := ps_cut m h1
    refine ⟨k, k1, ?_⟩
    rcases act_cs hn (hv k k1) with ⟨c1, c2, c3⟩ | ⟨c1, c2, c3, c4⟩ | ⟨c1, c2, c3, c4, c5⟩
    · rw [show i = ps P n k by omega] at h2; omega
    · rw [show i = ps P n k by omega] at h2; omega
    · by_cases ci : i = ps P n k
      · rw [ci] at h2; omega
      · rw [show i = ps P n k + 1 by omega] at h2
        rcases c5 with ⟨_, q, _⟩ | ⟨q, _⟩ | ⟨q, _⟩
        · omega
        · omega
        · omega
def mkZ (z0 z1 z2 z3 z4 : Nat → Nat) : Cp := fun a e => if a = 0 then z0 e else if a = 1 then z1 e else if a = 2 then z2 e else if a = 3 then z3 e else z4 e
/-- what is found: by the class, by the model -/
def FX (n : Nat) (A : List (List Nat)) (s : Hp) : Prop := s 38 0 = nI n ∧ s 38 1 = nI A.length ∧ (∀ e q, e < 7 → q < n → s 41 (e * 7 + q) = nI (cQ A q e)) ∧ (∀ e, e < 7 → s 42 e = nI (oQ A 0 e)) ∧ ∀ l Q, A = l :: Q → ∀ q, q < n → s 40 q = nI (rw7 l q)
theorem find74_e {N n : Nat} {σ s : Hp} {Z : Cp} {se : Nat → Int32} (h1n : 1 ≤ n) (hn : n ≤ 7) (hN : 60 < N) (bz : BZ n Z) (z : ZT s n Z se) (h1 : s 38 1 = nI 0) (h41 : ∀ j, j < 49 → s 41 j = nI 0) (h42 : ∀ e, e < 7 → s 42 e = nI 0) (hx : XF σ s) : ∃ t, t_X6_findFitting_141 N s = some (0, t) ∧ FX n ((lexL n n 0).filter (okL Z se 0 0 0 0)) t ∧ XF σ t := by
  obtain ⟨t, e1, f1, f2, f3, f4, f5, f6⟩ := search_e (N := N) bz h1n hn hN z h1 h41 h42
  rw [ac_flt] at f2 f3 f4 f5
  unfold t_X6_findFitting_141
  rw [e1, bind_s]
  exact ⟨t, rfl, ⟨f1, f2, f3, f4, f5⟩, fun a ha => (f6 a (by omega)).trans (hx a ha)⟩
theorem fit_pair {N pn : Nat} {P : Nat → Nat} {σ τ : Hp} {C H : Cp} (hN : 5900 < N) (hR : Rl σ τ) (h1 : RC σ 2 C) (h2 : RM τ C) (h3 : BC C) (h4 : RH σ 5 H) (h5 : RN τ H) (h6 : BH (C 0 0) H) (h7 : RP σ τ pn P) : (∃ r τ', (r = (-5 : Int32) ∨ r = (-3)) ∧ t_X6_findFitting N σ = some (r, σ) ∧ t_X7_goFits N τ = some (r, τ') ∧ Rl σ τ') ∨ ∃ (A : List (List Nat)) (σ' τ' : Hp), (∀ l, l ∈ A → l ∈ lexL (C 0 0) (C 0 0) 0) ∧ A.length ≤ 5040 ∧ t_X6_findFitting N σ = some (0, σ') ∧ t_X7_goFits N τ = some (-6, τ') ∧ Rl σ' τ' ∧ RC σ' 2 C ∧ RM τ' C ∧ FX (C 0 0) A σ' ∧ Cn (C 0 0) A τ' := by
  obtain ⟨n, hn⟩ : ∃ n, C 0 0 = n := ⟨_, rfl⟩
  have hb := h3.1
  rw [hn] at hb h6 ⊢
  have hs7 := h6.2.1
  have hc12 := h6.1
  have px := RP_X h7
  have pm := RP_M h7
  have hp := px.2.1
  have xrc : ∀ {s : Hp}, XF σ s → RC s 2 C := fun hx => RC_f h1 (fun a _ _ => hx a (by omega))
  have fin : ∀ {Z : Cp} {se : Nat → Int32} {s t' : Hp}, t_X6_findFitting N σ = some (0, s) → t_X7_goFits N τ = some (-6, t') → FX n ((lexL n n 0).filter (okL Z se 0 0 0 0)) s → XF σ s → MW τ t' → Cn n ((lexL n n 0).filter (okL Z se 0 0 0 0)) t' → ∃ (A : List (List Nat)) (σ' τ' : Hp), (∀ l, l ∈ A → l ∈ lexL n n 0) ∧ A.length ≤ 5040 ∧ t_X6_findFitting N σ = some (0, σ') ∧ t_X7_goFits N τ = some (-6, τ') ∧ Rl σ' τ' ∧ RC σ' 2 C ∧ RM τ' C ∧ FX n A σ' ∧ Cn n A τ' := fun {Z se s t'} q1 q2 q3 q4 q5 q6 => ⟨_, s, t', fun l hl => (List.mem_filter.mp hl).1, Nat.le_trans (List.length_filter_le _ _) (lenE_le hb.2), q1, q2, Rl_w hR q4 q5, xrc q4, MW_RM q5 h2, q3, q6⟩
  -- the tables of clues
  obtain ⟨s1, e1, B1, B2, B3, B4, B5⟩ := beginF_e (σ := σ) (N := N) (by omega) hb.1 hb.2
  obtain ⟨s2, e2, k1, k2⟩ := clues_e (s := s1) (N := N) h6 (RH_f h4 (fun a _ _ => B5 a (by omega))) (by omega) (fun i hi => ⟨(B4 i hi).2.1, (B4 i hi).2.2.1, (B4 i hi).2.2.2.1⟩)
  have x2 : XF σ s2 := fun a ha => (k2 a (by omega)).trans (B5 a (by omega))
  have s238 : s2 38 0 = nI n := by rw [k2 38 (by omega)]; exact B1
  by_cases c0 : H 0 1 = 0
  · -- without sights
    refine Or.inr ?_
    obtain ⟨Z, hZ⟩ : ∃ Z : Cp, Z = mkZ (fun e => tAL H e (H 0 0)) (fun e => tMA 0 H e (H 0 0)) (fun e => tMA 1 H e (H 0 0)) (fun _ => 0) (fun _ => 0) := ⟨_, rfl⟩
    have bz : BZ n Z := fun e he => by rw [hZ]; exact ⟨tAL_lt h6 e _ (by omega), tMA_lt h6 0 e _ (by omega), tMA_lt h6 1 e _ (by omega), Nat.zero_le _, Nat.zero_le _⟩
    have z : ZT s2 n Z (fun _ => (-1)) := by
      refine ⟨s238, fun e he => ?_⟩
      have he7 : e < 7 := by omega
      obtain ⟨w1, w2, w3⟩ := k1 e he7
      obtain ⟨v1, v2, v3, v4, v5, v6, v7⟩ := B4 e he7
      rw [hZ]
      exact ⟨w1, w2, w3, by rw [k2 46 (by omega)]; exact v5, by rw [k2 47 (by omega), v6]; show (-1 : Int32) = nI 0 + (-1); decide, by rw [k2 48 (by omega)]; exact v7⟩
    obtain ⟨s3, e3, f3, x3⟩ := find74_e (N := N) hb.1 hb.2 (by omega) bz z (by rw [k2 38 (by omega)]; exact B2) (fun j hj => by rw [k2 41 (by omega)]; exact B3 j hj) (fun e he => by rw [k2 42 (by omega)]; exact (B4 e he).1) x2
    have zi : ZI P n 0 C H Z (fun _ => (-1)) τ := ⟨fun e he => by rw [hZ]; exact ⟨rfl, rfl, rfl⟩, fun _ e he => by rw [hZ]; exact ⟨rfl, rfl⟩, fun w => absurd c0 w⟩
    obtain ⟨t', g1, g2, g3⟩ := go41_e hn hb.1 hb.2 hN h3 h2 h5 h6 zi
    have l0 : nI 0 ≤ (0 : Int32) := by decide
    refine fin ?_ ?_ f3 x3 g2 g3
    · unfold t_X6_findFitting t_X6_findFitting_18 t_X6_findFitting_74
      rw [h4.2.1, c0, if_pos l0, if_pos rfl, h1.1, hn, e1, bind_s, e2, bind_s, if_pos rfl, e3]
    · unfold t_X7_goFits t_X7_goFits_24
      rw [h5.2.1, c0, if_pos l0, if_pos l0, g1]
  · -- with sights
    have l1 : ¬ nI (H 0 1) ≤ (0 : Int32) := nI_nle (by omega) (by omega)
    have ni1 : ¬ (1 : Int32) = 0 := by decide
    have wx := weekX_e (N := N) px hb.2 (by omega)
    obtain ⟨τ1, m1, m2, m3⟩ := weekM_e h2 h3 pm (by omega : 60 < N)
    rw [hn] at m1 m3
    have mf := WFr_MF m2
    have ux : t_X6_findFitting N σ = Option.bind (t_X3_weekFault N (σ 2 0) σ) (fun r6 : Int32 => if r6 = (-6) then Option.bind (t_X3_eatsOrMends N σ) (fun r7 : Int32 => if r7 = 0 then Option.bind (t_X0_areAllWhole N 2 σ) (fun r8 : Int32 => if r8 = 0 then some ((-3), σ) else t_X6_findFitting_74 N 1 σ) else some ((-5), σ)) else some ((-5), σ)) := by
      unfold t_X6_findFitting t_X6_findFitting_18
      rw [h4.2.1, if_neg l1, if_neg ni1]
    have um : t_X7_goFits N τ = b2 (t_X7_faultOfWeek N τ) (fun (r16 : Int32) (σ17 : Hp) => if 0 ≤ r16 then some ((-5), σ17) else if (σ17 0 21) = 0 then t_X7_goFits_24 N σ17 else some ((-5), σ17)) := by
      unfold t_X7_goFits
      rw [h5.2.1, if_neg l1]
    rw [h1.1, hn, wx, bind_s] at ux
    rw [m1, b2_s] at um
    rcases wF_v (P := P) (n := n) hp pn 0 false (by omega) with hw | ⟨k, hk, hw⟩
    · obtain ⟨m, w1, w2, w3, w4, w5⟩ := m3 hw
      have hv : ∀ k, k < m → vld P n k := fun k hk => (w5 k hk).1
      have em := mar_em hb.2 w3 hv
      rw [hw, if_pos (rfl : (-6 : Int32) = -6), eoms_e px (by omega), bind_s, bI_0, ← em] at ux
      rw [hw, if_neg (show ¬ (0 : Int32) ≤ (-6) by decide), w2, bI_0] at um
      by_cases cm : mar P n m = true
      · rw [if_pos cm] at ux um
        exact Or.inl ⟨-5, τ1, Or.inl rfl, ux, um, Rl_fr hR XF_rf mf⟩
      · rw [if_neg cm, alwX_e h1 h3 (by omega), bind_s, bI_0, hn] at ux
        have r1 := MF_RM mf h2
        have rn1 : RN τ1 H := RN_f h5 (fun a _ _ => m2.1 a (by omega) (by omega) (by omega) (by omega)) (m2.2 11 (by omega) (by omega)) (m2.2 14 (by omega) (by omega))
        have u24 : t_X7_goFits_24 N τ1 = if alw C n = true then t_X7_goFits_41 N τ1 else some ((-3), τ1) := by
          unfold t_X7_goFits_24
          rw [rn1.2.1, if_neg l1, alwM_e r1 h3 (by omega), bind_s, bI_0, hn]
        rw [if_neg cm, u24] at um
        by_cases ca : alw C n = true
        · refine Or.inr ?_
          rw [if_pos ca] at ux um
          have hwl := (alw_all n).mp ca
          have hv2 : ∀ k, k < m → vld P n k ∧ kd P n k ≤ 2 := fun k hk => ⟨hv k hk, by
            have : ¬ 3 ≤ kd P n k := fun z => cm ((mar_iff m).mpr ⟨k, hk, z⟩)
            omega⟩
          have px2 : PadX s2 pn P := by unfold PadX; rw [x2 31 (by omega), x2 32 (by omega)]; exact px
          obtain ⟨s3, e3, t1, t2, t3⟩ := takeWeek_e (N := N) px2 (xrc x2) h3 hn (by omega) hv2 w3 s238 (fun e he => by rw [k2 47 (by omega)]; exact (B4 e he).2.2.2.2.2.1)
          obtain ⟨s4, e4, y1, y2⟩ := sights_e (s := s3) (N := N) h6 (RH_f h4 (fun a _ _ => by rw [t3 a (by omega)]; exact x2 a (by omega))) (by omega) (fun i hi => by rw [t3 48 (by omega), k2 48 (by omega)]; exact (B4 i hi).2.2.2.2.2.2)
          obtain ⟨Z, hZ⟩ : ∃ Z : Cp, Z = mkZ (fun e => tAL H e (H 0 0)) (fun e => tMA 0 H e (H 0 0)) (fun e => tMA 1 H e (H 0 0)) (fun e => wH P n C m e) (fun e => cF P n m e) := ⟨_, rfl⟩
          have hml := aH_le P n m
          have bz : BZ n Z := fun e he => by
            rw [hZ]
            refine ⟨tAL_lt h6 e _ (by omega), tMA_lt h6 0 e _ (by omega), tMA_lt h6 1 e _ (by omega), ?_, ?_⟩
            · show wH P n C m e ≤ 1000
              have := wH_le P n C e m; omega
            · show cF P n m e ≤ 1000
              rcases cF_ex P n e m with q | ⟨j, q1, q2, q3, q4⟩
              · omega
              · have := aH_le P n j; omega
          have z : ZT s4 n Z (fun e => tSE H e (H 0 1)) := by
            refine ⟨by rw [y2 38 (by decide), t3 38 (by omega)]; exact s238, fun e he => ?_⟩
            have he7 : e < 7 := by omega
            obtain ⟨v1, v2, v3⟩ := k1 e he7
            rw [hZ]
            exact ⟨by rw [y2 43 (by decide), t3 43 (by omega)]; exact v1, by rw [y2 44 (by decide), t3 44 (by omega)]; exact v2, by rw [y2 45 (by decide), t3 45 (by omega)]; exact v3, by rw [y2 46 (by decide)]; exact t1 e he, by rw [y2 47 (by decide)]; exact t2 e he7, y1 e he7⟩
          have x4 : XF σ s4 := fun a ha => by rw [y2 a (by omega), t3 a (by omega)]; exact x2 a ha
          obtain ⟨s5, e5, f5, x5⟩ := find74_e (N := N) hb.1 hb.2 (by omega) bz z (by rw [y2 38 (by decide), t3 38 (by omega), k2 38 (by omega)]; exact B2) (fun j hj => by rw [y2 41 (by decide), t3 41 (by omega), k2 41 (by omega)]; exact B3 j hj) (fun e he => by rw [y2 42 (by decide), t3 42 (by omega), k2 42 (by omega)]; exact (B4 e he).1) x4
          have zi : ZI P n m C H Z (fun e => tSE H e (H 0 1)) τ1 := ⟨fun e he => by rw [hZ]; exact ⟨rfl, rfl, rfl⟩, fun w => absurd w c0, fun _ => ⟨fun e he => by rw [hZ]; exact ⟨rfl, rfl, rfl⟩, hwl, by omega, w1, w5, hv2⟩⟩
          obtain ⟨t', g1, g2, g3⟩ := go41_e hn hb.1 hb.2 hN h3 r1 rn1 h6 zi
          refine fin ?_ (um.trans g1) f5 x5 (MW_MF mf g2) g3
          rw [ux]
          unfold t_X6_findFitting_74
          rw [h1.1, hn, e1, bind_s, e2, bind_s, if_neg ni1, e3, bind_s, e4, bind_s, e5]
        · rw [if_neg ca] at ux um
          exact Or.inl ⟨-3, τ1, Or.inr rfl, ux, um, Rl_fr hR XF_rf mf⟩
    · rw [hw, if_neg (m6_ne (by omega))] at ux
      rw [hw, if_pos (nI_pos' (by omega))] at um
      exact Or.inl ⟨-5, τ1, Or.inl rfl, ux, um, Rl_fr hR XF_rf mf⟩
