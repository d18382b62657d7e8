/-! the model goes through all rows -/
def tk (ok : List Nat → Bool) (L : List (List Nat)) : Nat → List (List Nat)
  | 0 => []
  | i + 1 => tk ok L i ++ (if ok (L.getD i []) = true then [L.getD i []] else [])
theorem tk_e {ok : List Nat → Bool} {L : List (List Nat)} : ∀ i, i ≤ L.length → tk ok L i = (L.take i).filter ok
  | 0, _ => rfl
  | i + 1, h => by
    have e : L.getD i [] = L[i] := by rw [List.getD_eq_getElem?_getD, List.getElem?_eq_getElem (by omega)]; rfl
    show tk ok L i ++ (if ok (L.getD i []) = true then [L.getD i []] else []) = _
    rw [tk_e i (by omega), List.take_succ_eq_append_getElem (by omega), List.filter_append, e]
    by_cases c : ok L[i] = true
    · rw [if_pos c, List.filter_cons_of_pos c]; rfl
    · rw [if_neg c, List.filter_cons_of_neg c]; rfl
theorem tk_len (ok : List Nat → Bool) (L : List (List Nat)) : tk ok L L.length = L.filter ok := by
  rw [tk_e _ (Nat.le_refl _), List.take_length]
theorem tk_le {ok : List Nat → Bool} {L : List (List Nat)} : ∀ i, (tk ok L i).length ≤ i
  | 0 => Nat.le_refl _
  | i + 1 => by
    have := tk_le (ok := ok) (L := L) i
    show (tk ok L i ++ _).length ≤ _
    rw [List.length_append]
    split
    · show _ + 1 ≤ _; omega
    · show _ + 0 ≤ _; omega
theorem Cn_fr {n : Nat} {A : List (List Nat)} {s t : Hp} (h : Cn n A s) (e : ∀ a, 21 ≤ a → a ≤ 23 → t a = s a) (e33 : t 0 33 = s 0 33) : Cn n A t := by
  unfold Cn at *
  rw [e33, e 21 (by omega) (by omega), e 22 (by omega) (by omega), e 23 (by omega) (by omega)]; exact h
theorem loop_e {N n m : Nat} {P : Nat → Nat} {τ s0 : Hp} {C H Z : Cp} {se : Nat → Int32} (hn : C 0 0 = n) (h1n : 1 ≤ n) (hn7 : n ≤ 7) (hN : 5900 < N) (b : BC C) (r : RM τ C) (rn : RN τ H) (hb : BH n H) (mk : MK τ τ) (zi : ZI P n m C H Z se τ) (h : FB τ s0) (h16 : RS s0 n (fun p => p)) (hc : Cn n [] s0) : ∃ s, t_X7_goFits_103 N N 1 s0 = some (-6, s) ∧ FB τ s ∧ Cn n ((lexL n n 0).filter (okL Z se 0 0 0 0)) s := by
  obtain ⟨L, hL⟩ : ∃ L, lexL n n 0 = L := ⟨_, rfl⟩
  obtain ⟨fl, fr⟩ := first_row n (by omega) h1n
  have chk := chk_at L (by rw [← hL]; exact chk_ok h1n hn7)
  have len := lenE_le hn7
  rw [hL] at fl fr len
  have mem : ∀ i, i < L.length → L.getD i [] ∈ lexL n n 0 := fun i hi => by
    rw [hL, List.getD_eq_getElem?_getD, List.getElem?_eq_getElem hi]; exact List.getElem_mem hi
  have key : ∃ z : Int32 × Hp, t_X7_goFits_103 N N 1 s0 = some z ∧ (z.1 = (-6) ∧ FB τ z.2 ∧ Cn n (tk (okL Z se 0 0 0 0) L L.length) z.2) := by
    unfold t_X7_goFits_103
    refine li2 _ (fun i (v : Int32) (s : Hp) => v = (if i < L.length then 1 else 0) ∧ FB τ s ∧ (i < L.length → RS s n (rw7 (L.getD i []))) ∧ Cn n (tk (okL Z se 0 0 0 0) L i) s) _ L.length ?_ ?_ N 1 s0 (by omega) ⟨by rw [if_pos fl], h, fun _ p hp => by rw [fr p hp]; exact h16 p hp, hc⟩
    · intro i v s hi ⟨a1, a2, a3, a4⟩
      rw [if_pos hi] at a1
      subst a1
      have hm := mem i hi
      obtain ⟨c1, c2⟩ := chk i hi
      obtain ⟨l, hl⟩ : ∃ l, L.getD i [] = l := ⟨_, rfl⟩
      have a3' := a3 hi
      rw [hl] at hm c1 c2 a3'
      have pr := row_PR hn7 hm
      have fl7 : ∀ p, p < n → rw7 l p < 7 := fun p hp => by have := (pr.1 p hp).1; omega
      obtain ⟨s1, f1, g1, k1, e1⟩ := rowT_e hn hn7 (by omega : 60 < N) hm b r rn hb mk zi a2 a3'
      have cn1 : Cn n (tk (okL Z se 0 0 0 0) L i) s1 := Cn_fr a4 (fun a h1 h2 => g1 a (by omega)) k1
      have s116 : RS s1 n (rw7 l) := fun p hp => by rw [g1 16 (by omega)]; exact a3' p hp
      have s100 : s1 0 0 = nI n := by rw [f1.2.1 0 (by omega) (by omega) (by omega) (by omega) (by omega), ← hn]; exact r.1
      have tl := tk_le (ok := okL Z se 0 0 0 0) (L := L) i
      have cnt : ∃ s2, FB τ s2 ∧ RS s2 n (rw7 l) ∧ s2 0 0 = nI n ∧ Cn n (tk (okL Z se 0 0 0 0) L (i + 1)) s2 ∧ ∀ k, b2 (t_X7_fitsClues N s) (fun (r3 : Int32) (σ4 : Hp) => if r3 = 0 then t_X7_goFits_125 N k σ4 else b2 (t_X7_fitsSights N σ4) (fun (r5 : Int32) (σ6 : Hp) => if r5 = 0 then t_X7_goFits_125 N k σ6 else Option.bind (t_X7_countFit N σ6) (fun σ7 : Hp => t_X7_goFits_125 N k σ7))) = t_X7_goFits_125 N k s2 := by
        have ut : tk (okL Z se 0 0 0 0) L (i + 1) = tk (okL Z se 0 0 0 0) L i ++ (if okL Z se 0 0 0 0 l = true then [l] else []) := by rw [← hl]; rfl
        by_cases c : okL Z se 0 0 0 0 l = true
        · rw [if_pos c] at ut
          obtain ⟨s2, q1, q2, q3, q4⟩ := countFit_e (N := N) hn7 (by omega) pr s100 s116 (by omega) cn1
          refine ⟨s2, FB_fr f1 (fun a h0 ha => q3 a h0 (by omega) (by omega) (by omega)) q4, fun p hp => by rw [q3 16 (by decide) (by decide) (by decide) (by decide)]; exact s116 p hp, by rw [q4 0 (by decide)]; exact s100, by rw [ut]; exact q2, fun k => ?_⟩
          rw [e1 (fun σ6 => Option.bind (t_X7_countFit N σ6) (fun σ7 : Hp => t_X7_goFits_125 N k σ7)) (fun σ4 => t_X7_goFits_125 N k σ4), if_pos c, q1, bind_s]
        · rw [if_neg c, List.append_nil] at ut
          refine ⟨s1, f1, s116, s100, by rw [ut]; exact cn1, fun k => ?_⟩
          rw [e1 (fun σ6 => Option.bind (t_X7_countFit N σ6) (fun σ7 : Hp => t_X7_goFits_125 N k σ7)) (fun σ4 => t_X7_goFits_125 N k σ4), if_neg c]
      obtain ⟨s2, f2, r2, t2, cn2, e2⟩ := cnt
      obtain ⟨nx1, nx2⟩ := nextRow_e (N := N) (by omega) h1n hn7 fl7 r2 t2
      by_cases c : i + 1 < L.length
      · obtain ⟨d1, d2⟩ := c1 c
        obtain ⟨s3, q1, q2, q3⟩ := nx2 d1
        refine Or.inr ⟨1, s3, ⟨by rw [if_pos c], FB_fr f2 (fun a h0 ha => q3 a (by omega)) (fun j _ => by rw [q3 0 (by decide)]), fun _ p hp => by rw [← d2 p hp]; exact q2 p hp, Cn_fr cn2 (fun a h1 h2 => q3 a (by omega)) (by rw [q3 0 (by decide)])⟩, fun k => ?_⟩
        refine Eq.trans (if_neg (show ¬ (1 : Int32) = 0 by decide)) ?_
        rw [e2 k]
        unfold t_X7_goFits_125
        rw [q1, b2_s]
      · have d1 := nx1 (c2 (by omega))
        refine Or.inr ⟨0, s2, ⟨by rw [if_neg c], f2, fun z => absurd z c, cn2⟩, fun k => ?_⟩
        refine Eq.trans (if_neg (show ¬ (1 : Int32) = 0 by decide)) ?_
        rw [e2 k]
        unfold t_X7_goFits_125
        rw [d1, b2_s]
    · intro v s ⟨a1, a2, a3, a4⟩
      rw [if_neg (Nat.lt_irrefl _)] at a1
      subst a1
      exact ⟨(-6, s), ⟨rfl, a2, a4⟩, fun k => if_pos rfl⟩
  obtain ⟨⟨z, s⟩, z1, z2, z3, z4⟩ := key
  rw [hL, ← tk_len]
  exact ⟨s, by rw [z1]; exact congrArg (fun x => some (x, s)) z2, z3, z4⟩
theorem go41_e {N n m : Nat} {P : Nat → Nat} {τ : Hp} {C H Z : Cp} {se : Nat → Int32} (hn : C 0 0 = n) (h1n : 1 ≤ n) (hn7 : n ≤ 7) (hN : 5900 < N) (b : BC C) (r : RM τ C) (rn : RN τ H) (hb : BH n H) (zi : ZI P n m C H Z se τ) : ∃ s, t_X7_goFits_41 N τ = some (-6, s) ∧ MW τ s ∧ Cn n ((lexL n n 0).filter (okL Z se 0 0 0 0)) s := by
  obtain ⟨τ1, e1, k2, k3, k4⟩ := keepNow_e (N := N) (τ := τ) (by omega)
  unfold t_X7_goFits_41
  rw [e1, bind_s, bnd_e]
  have key : ∃ z : Int32 × Hp, t_X7_goFits_52 N N 0 (hset τ1 0 33 0) = some z ∧ (z.1 = (-6) ∧ MW τ z.2 ∧ Cn n ((lexL n n 0).filter (okL Z se 0 0 0 0)) z.2) := by
    unfold t_X7_goFits_52
    refine li2 _ (fun i (v : Int32) (s : Hp) => v = nI i ∧ (∀ j, j < i → s 22 j = nI 0 ∧ s 23 j = nI 0) ∧ ∀ a, a ≠ 22 → a ≠ 23 → s a = hset τ1 0 33 0 a) _ 49 ?_ ?_ N 0 _ (by omega) ⟨rfl, fun j hj => absurd hj (Nat.not_lt_zero j), fun _ _ _ => rfl⟩
    · intro i v s hi ⟨a1, a2, a3⟩
      subst a1
      refine Or.inr ⟨nI (i + 1), hset (hset s 22 i 0) 23 i 0, ⟨rfl, fun j hj => ?_, fun a h1 h2 => by rw [hs_o h2, hs_o h1]; exact a3 a h1 h2⟩, fun k => ?_⟩
      · by_cases c : j = i
        · subst c; exact ⟨by rw [hs_o (by decide), hs_eq]; rfl, by rw [hs_eq]; rfl⟩
        · exact ⟨by rw [hs_o (by decide), hs_k c]; exact (a2 j (by omega)).1, by rw [hs_k c, hs_o (by decide)]; exact (a2 j (by omega)).2⟩
      · show (if (49 : Int32) ≤ nI i then _ else _) = _
        rw [if_neg (show ¬ (49 : Int32) ≤ nI i from nI_ge (a := i) (b := 49) hi (by omega)), gi_in hi (by omega), nI_clamp (by omega), bnd_e, gi_in hi (by omega), bnd_e, bnd_e, nI_1]
    · intro v s ⟨a1, a2, a3⟩
      subst a1
      have key2 : ∃ z : Int32 × Hp, t_X7_goFits_80 N N 0 s = some z ∧ (z.1 = (-6) ∧ MW τ z.2 ∧ Cn n ((lexL n n 0).filter (okL Z se 0 0 0 0)) z.2) := by
        unfold t_X7_goFits_80
        refine li2 _ (fun i (v : Int32) (t : Hp) => v = nI i ∧ (∀ j, j < i → t 16 j = nI j) ∧ ∀ a, a ≠ 16 → t a = s a) _ n ?_ ?_ N 0 _ (by omega) ⟨rfl, fun j hj => absurd hj (Nat.not_lt_zero j), fun _ _ => rfl⟩
        · intro i v t hi ⟨b1, b2, b3⟩
          subst b1
          refine Or.inr ⟨nI (i + 1), hset t 16 i (nI i), ⟨rfl, fun j hj => ?_, fun a h1 => by rw [hs_o h1]; exact b3 a h1⟩, fun k => ?_⟩
          · by_cases c : j = i
            · subst c; rw [hs_eq]
            · rw [hs_k c]; exact b2 j (by omega)
          · show (if t 0 0 ≤ nI i then _ else _) = _
            rw [b3 0 (by decide), a3 0 (by decide) (by decide), hs_k (by decide), k2 0 (by decide), r.1, hn, if_neg (nI_ge hi (by omega)), gi_in (by omega) (by omega), nI_clamp (by omega), bnd_e, bnd_e, nI_1]
        · intro v t ⟨b1, b2, b3⟩
          subst b1
          have ta : ∀ a, a ≠ 0 → a ≠ 16 → a ≠ 18 → a ≠ 22 → a ≠ 23 → t a = τ a := fun a h0 h16 h18 h22 h23 => by rw [b3 a h16, a3 a h22 h23, hs_o h0, k2 a h18]
          have t0 : ∀ j, j ≠ 33 → t 0 j = τ 0 j := fun j hj => by rw [b3 0 (by decide), a3 0 (by decide) (by decide), hs_k hj, k2 0 (by decide)]
          have t18 : t 18 = τ1 18 := by rw [b3 18 (by decide), a3 18 (by decide) (by decide), hs_o (by decide)]
          have rt : RM t C := RM_f r (fun a _ _ => ta a (by omega) (by omega) (by omega) (by omega) (by omega)) (t0 0 (by decide)) (t0 7 (by decide))
          have rnt : RN t H := RN_f rn (fun a _ _ => ta a (by omega) (by omega) (by omega) (by omega) (by omega)) (t0 11 (by decide)) (t0 14 (by decide))
          have mkt : MK t t := by
            refine ⟨fun a _ => rfl, fun i hi => ?_, ?_, rfl, rfl, rfl, rfl⟩
            · rw [t18, ta 2 (by decide) (by decide) (by decide) (by decide) (by decide), ta 4 (by decide) (by decide) (by decide) (by decide) (by decide), ta 5 (by decide) (by decide) (by decide) (by decide) (by decide)]; exact k3 i hi
            · rw [t18, t0 7 (by decide)]; exact k4
          have zit : ZI P n m C H Z se t := by
            obtain ⟨z1, z2, z3⟩ := zi
            refine ⟨z1, z2, fun c => ?_⟩
            obtain ⟨y1, y2, y3, y4, y5, y6⟩ := z3 c
            exact ⟨y1, y2, y3, by rw [t0 20 (by decide)]; exact y4, WArr_fr y5 (ta 13 (by decide) (by decide) (by decide) (by decide) (by decide)) (ta 14 (by decide) (by decide) (by decide) (by decide) (by decide)) (ta 15 (by decide) (by decide) (by decide) (by decide) (by decide)), y6⟩
          have sm : ∀ e q, e < n → q < n → 7 * e + q < 49 := fun e q _ _ => by omega
          have t22 : ∀ j, j < 49 → t 22 j = nI 0 ∧ t 23 j = nI 0 := fun j hj => by rw [b3 22 (by decide), b3 23 (by decide)]; exact a2 j hj
          have cnt : Cn n [] t := ⟨by rw [b3 0 (by decide), a3 0 (by decide) (by decide), hs_eq]; rfl, fun e q he hq => (t22 _ (sm e q he hq)).1, fun e q he hq => (t22 _ (sm e q he hq)).2, fun l A' hl => by cases hl⟩
          obtain ⟨z, q1, q2, q3⟩ := loop_e hn h1n hn7 hN b rt rnt hb mkt zit FB_rf b2 cnt
          have mw := FB_MW q2
          refine ⟨(-6, z), ⟨rfl, ?_, q3⟩, fun k => ?_⟩
          · obtain ⟨w1, w2, w3, w4, w5, w6, w7⟩ := mw
            refine ⟨fun a ha => (w1 a ha).trans (ta a (by omega) (by omega) (by omega) (by omega) (by omega)), fun i hi => ?_, w3.trans (t0 0 (by decide)), w4.trans (t0 7 (by decide)), w5.trans (t0 11 (by decide)), w6.trans (t0 14 (by decide)), w7.trans (t0 16 (by decide))⟩
            rw [← ta 2 (by decide) (by decide) (by decide) (by decide) (by decide), ← ta 4 (by decide) (by decide) (by decide) (by decide) (by decide), ← ta 5 (by decide) (by decide) (by decide) (by decide) (by decide)]; exact w2 i hi
          · show (if t 0 0 ≤ nI n then _ else _) = _
            rw [t0 0 (by decide), r.1, hn, if_pos (nI_le (Nat.le_refl _) (by omega))]; exact q1
      obtain ⟨z, z1, z2⟩ := key2
      exact ⟨z, z2, fun k => (if_pos (show (49 : Int32) ≤ nI 49 by decide)).trans z1⟩
  obtain ⟨⟨z, s⟩, z1, z2, z3, z4⟩ := key
  exact ⟨s, by rw [z1]; exact congrArg (fun x => some (x, s)) z2, z3, z4⟩
