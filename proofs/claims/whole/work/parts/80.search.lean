/-! the class's search finds the rows that fit, in their order -/
def acL (n : Nat) (Z : Cp) (se : Nat → Int32) : Nat → Nat → Nat → Nat → Nat → List (List Nat)
  | 0, _, _, _, _ => [[]]
  | d + 1, p, b, h, v => (List.range n).flatMap (fun e => if b.testBit e = true then [] else if (cbl Z e p b v && chi Z se e (max h (Z 3 e))) = true then (acL n Z se d (p + 1) (b ||| 2 ^ e) (max h (Z 3 e)) e).map (fun l => e :: l) else [])
theorem fm_len {α β : Type} {g : α → List β} {M : Nat} : ∀ L : List α, (∀ e ∈ L, (g e).length ≤ M) → (L.flatMap g).length ≤ L.length * M
  | [], _ => Nat.zero_le _
  | x :: L, h => by
    have ih := fm_len L (fun e he => h e (List.mem_cons_of_mem _ he))
    have hx := h x (List.mem_cons_self)
    rw [List.flatMap_cons, List.length_append, List.length_cons, Nat.succ_mul]; omega
theorem acL_len {n : Nat} {Z : Cp} {se : Nat → Int32} (hn : n ≤ 7) : ∀ d p b h v, (acL n Z se d p b h v).length ≤ 7 ^ d
  | 0, _, _, _, _ => Nat.le_refl _
  | d + 1, p, b, h, v => by
    have := fm_len (g := fun e => if b.testBit e = true then [] else if (cbl Z e p b v && chi Z se e (max h (Z 3 e))) = true then (acL n Z se d (p + 1) (b ||| 2 ^ e) (max h (Z 3 e)) e).map (fun l => e :: l) else []) (M := 7 ^ d) (List.range n) (fun e _ => by
      show (if b.testBit e = true then [] else if (cbl Z e p b v && chi Z se e (max h (Z 3 e))) = true then (acL n Z se d (p + 1) (b ||| 2 ^ e) (max h (Z 3 e)) e).map (fun l => e :: l) else []).length ≤ 7 ^ d
      split
      · exact Nat.zero_le _
      · split
        · rw [List.length_map]; exact acL_len hn d _ _ _ _
        · exact Nat.zero_le _)
    rw [List.length_range] at this
    have h2 : n * 7 ^ d ≤ 7 * 7 ^ d := Nat.mul_le_mul_right _ hn
    have h3 : 7 ^ (d + 1) = 7 * 7 ^ d := by rw [Nat.pow_succ, Nat.mul_comm]
    show ((List.range n).flatMap _).length ≤ _
    omega
theorem p7_lt {d : Nat} (h : d ≤ 7) : 7 ^ d < 2 ^ 31 := Nat.lt_of_le_of_lt (Nat.pow_le_pow_right (by omega) h) (by decide)
theorem oQ_1 (b e : Nat) : oQ [[]] b e = 0 := Nat.or_self 0
theorem keep_e {s : Hp} {N n b : Nat} (hN : 7 < N) (hn : n ≤ 7) (h1 : s 38 1 = 0 ∨ s 38 1 = 1) : ∃ t, t_X1_keepIfFirst N s = some t ∧ Ef n n b [[]] s t := by
  unfold t_X1_keepIfFirst t_X1_keepIfFirst_18
  by_cases c : s 38 1 = 0
  · obtain ⟨s1, e1, f1, g1⟩ := copyRow_e (σ := s) (N := N) (a := 39) (b := 40) (n := 7) (by omega) hN (by omega)
    rw [if_pos c, e1, bind_s, bnd_e]
    refine ⟨_, rfl, fun a ha => by rw [hs_o (by omega), f1 a (by omega)], by rw [hs_k (by decide), f1 38 (by decide)], fun q hq => by rw [hs_o (by decide), f1 39 (by decide)], fun e q he hq hp => absurd hq (by omega), fun e q he hq => by rw [hs_o (by decide), f1 41 (by decide)], fun e he => by rw [hs_o (by decide), f1 42 (by decide)]; rw [oQ_1, or_zI], by rw [hs_eq]; rfl, fun hz => hz.elim (fun w => absurd w (by decide)) (fun w => absurd c w), fun l Q' hl hz q hq => by rw [hs_o (by decide), g1 q (by omega), if_pos hq]⟩
  · rw [if_neg c, bnd_e]
    refine ⟨_, rfl, fun a ha => by rw [hs_o (by omega)], by rw [hs_k (by decide)], fun q hq => by rw [hs_o (by decide)], fun e q he hq hp => absurd hq (by omega), fun e q he hq => by rw [hs_o (by decide)], fun e he => by rw [hs_o (by decide)]; rw [oQ_1, or_zI], by rw [hs_eq]; rfl, fun hz => by rw [hs_o (by decide)], fun l Q' hl hz q hq => absurd hz c⟩
theorem addO_e {s : Hp} {e p b c : Nat} (he : e < 7) (hp : p < 7) : t_X1_addOrders (nI e) (nI p) (nI b) (nI c) s = some (hset (hset s 41 (e * 7 + p) (s 41 (e * 7 + p) + nI c)) 42 e (s 42 e ||| nI b)) := by
  unfold t_X1_addOrders
  rw [show (7 : Int32) = nI 7 from rfl, pk_mul, nI_add, bnd_e, at_in (by omega) (by omega), bind_s, put_in (by omega) (by omega), bind_s, at_in (by omega) (by omega), bind_s, put_in (by omega) (by omega), bind_s, hs_o (by decide)]
def lyF (N : Nat) (kr : Int32 → Int32 → Int32 → Hp → Option (Int32 × Hp)) (k26 : Int32 → Int32 → Int32 → Int32 → Int32 → Hp → Option (Int32 × Hp)) (v1 v2 v3 v4 v5 : Int32) (σ : Hp) : Option (Int32 × Hp) := if (σ 38 0) ≤ v5 then some (v4, σ) else Option.bind (t_X6_hasBit v2 v5) (fun r4 : Int32 => if r4 = 0 then Option.bind (t_X1_canBeLaid v5 v1 v2 σ) (fun r5 : Int32 => if r5 = 0 then t_X1_lay_137 N kr k26 v1 v2 v3 v4 v5 σ else Option.bind (t_X6_at 46 7 v5 σ) (fun r6 : Int32 => bnd (if v3 < r6 then r6 else v3) (fun x7 : Int32 => Option.bind (t_X1_canHatchIn v5 x7 σ) (fun r8 : Int32 => if r8 = 0 then t_X1_lay_137 N kr k26 v1 v2 v3 v4 v5 σ else Option.bind (t_X6_put 39 7 v1 v5 σ) (fun σ9 : Hp => Option.bind (t_X6_bit v5) (fun r10 : Int32 => b2 (kr (v1 + 1) (v2 ||| r10) x7 σ9) (fun (r11 : Int32) (σ12 : Hp) => if r11 ≤ 0 then t_X1_lay_130 N kr k26 v1 v2 v3 v4 v5 r11 σ12 else Option.bind (t_X1_addOrders v5 v1 v2 r11 σ12) (fun σ13 : Hp => t_X1_lay_130 N kr k26 v1 v2 v3 v4 v5 r11 σ13)))))))) else t_X1_lay_137 N kr k26 v1 v2 v3 v4 v5 σ)
theorem ZT_f {s t : Hp} {n : Nat} {Z : Cp} {se : Nat → Int32} (z : ZT s n Z se) (h0 : t 38 0 = s 38 0) (h : ∀ a, 42 < a → t a = s a) : ZT t n Z se := ⟨h0.trans z.1, fun e he => by rw [h 43 (by omega), h 44 (by omega), h 45 (by omega), h 46 (by omega), h 47 (by omega), h 48 (by omega)]; exact z.2 e he⟩
theorem mx2_e {a b : Nat} (ha : a < 2 ^ 31) (hb : b < 2 ^ 31) : (if nI a < nI b then nI b else nI a) = nI (max a b) := by
  rw [lt_nI ha hb]
  by_cases c : a < b
  · rw [if_pos c, Nat.max_eq_right (by omega)]
  · rw [if_neg c, Nat.max_eq_left (by omega)]
set_option maxHeartbeats 1000000 in
theorem lay_e {n N : Nat} {Z : Cp} {se : Nat → Int32} (bz : BZ n Z) (h1n : 1 ≤ n) (hn : n ≤ 7) (hN : 60 < N) : ∀ d p b h v s F, d + p = n → d < F → b < 128 → h ≤ 1000 → ZT s n Z se → (0 < p → s 39 (p - 1) = nI v ∧ v < 7) → (s 38 1 = 0 ∨ s 38 1 = 1) → ∃ t, t_X1_lay N F (nI p) (nI b) (nI h) s = some (nI (acL n Z se d p b h v).length, t) ∧ Ef n p b (acL n Z se d p b h v) s t := by
  intro d
  induction d with
  | zero =>
    intro p b h v s F hd hF hb hh z hv h1
    obtain ⟨F, rfl⟩ : ∃ g, F = g + 1 := ⟨F - 1, by omega⟩
    obtain rfl : p = n := by omega
    obtain ⟨t, e1, g1⟩ := keep_e (b := b) (N := N) (by omega) hn h1
    refine ⟨t, ?_, g1⟩
    show t_X1_lay_F N (t_X1_lay N F) (nI p) (nI b) (nI h) s = _
    unfold t_X1_lay_F t_X1_lay_14
    rw [z.1, if_pos (nI_le (Nat.le_refl _) (by omega)), e1, bind_s]; rfl
  | succ d ih =>
    intro p b h v s F hd hF hb hh z hv h1
    obtain ⟨F, rfl⟩ : ∃ g, F = g + 1 := ⟨F - 1, by omega⟩
    have hp : p < n := by omega
    have hp7 : p < 7 := by omega
    obtain ⟨g, hg⟩ : ∃ g : Nat → List (List Nat), g = (fun e => if b.testBit e = true then [] else if (cbl Z e p b v && chi Z se e (max h (Z 3 e))) = true then (acL n Z se d (p + 1) (b ||| 2 ^ e) (max h (Z 3 e)) e).map (fun l => e :: l) else []) := ⟨_, rfl⟩
    have hac : acL n Z se (d + 1) p b h v = (List.range n).flatMap g := by rw [hg]; rfl
    rw [hac]
    have hgl : ∀ e, (g e).length ≤ 7 ^ d := fun e => by
      rw [hg]
      show (if b.testBit e = true then [] else if (cbl Z e p b v && chi Z se e (max h (Z 3 e))) = true then (acL n Z se d (p + 1) (b ||| 2 ^ e) (max h (Z 3 e)) e).map (fun l => e :: l) else []).length ≤ 7 ^ d
      split
      · exact Nat.zero_le _
      · split
        · rw [List.length_map]; exact acL_len hn d _ _ _ _
        · exact Nat.zero_le _
    have p7 := p7_lt (d := d) (by omega)
    have key : ∃ q : Int32 × Hp, t_X1_lay_26 N (t_X1_lay N F) N (nI p) (nI b) (nI h) 0 0 s = some q ∧ (q.1 = nI ((List.range n).flatMap g).length ∧ Ef n p b ((List.range n).flatMap g) s q.2) := by
      unfold t_X1_lay_26
      refine li6 _ (fun i v1 v2 v3 v4 v5 t => v1 = nI p ∧ v2 = nI b ∧ v3 = nI h ∧ v4 = nI ((List.range i).flatMap g).length ∧ v5 = nI i ∧ Ef n p b ((List.range i).flatMap g) s t) _ n ?_ ?_ N (nI p) (nI b) (nI h) 0 0 s (by omega) ⟨rfl, rfl, rfl, rfl, rfl, Ef_rf⟩
      · intro i v1 v2 v3 v4 v5 t hi ⟨a1, a2, a3, a4, a5, a6⟩
        subst a1; subst a2; subst a3; subst a4; subst a5
        have hi7 : i < 7 := by omega
        have zt : ZT t n Z se := ZT_f z a6.2.1 (fun a ha => a6.1 a (Or.inr ha))
        have hvt : 0 < p → t 39 (p - 1) = nI v ∧ v < 7 := fun w => by rw [a6.2.2.1 (p - 1) (by omega)]; exact hv w
        have t1 : t 38 1 = 0 ∨ t 38 1 = 1 := by
          rw [a6.2.2.2.2.2.2.1]; split
          · exact h1
          · exact Or.inr rfl
        have hw := (bz i hi).2.2.2.1
        have rs : (List.range (i + 1)).flatMap g = (List.range i).flatMap g ++ g i := by rw [List.range_succ, List.flatMap_append, List.flatMap_singleton]
        have gi0 : g i = if b.testBit i = true then [] else if (cbl Z i p b v && chi Z se i (max h (Z 3 i))) = true then (acL n Z se d (p + 1) (b ||| 2 ^ i) (max h (Z 3 i)) i).map (fun l => i :: l) else [] := by rw [hg]
        have none : g i = [] → (∀ k, lyF N (t_X1_lay N F) k (nI p) (nI b) (nI h) (nI ((List.range i).flatMap g).length) (nI i) t = t_X1_lay_137 N (t_X1_lay N F) k (nI p) (nI b) (nI h) (nI ((List.range i).flatMap g).length) (nI i) t) → (∃ (x1 x2 x3 x4 x5 : Int32) (x6 : Hp), (x1 = nI p ∧ x2 = nI b ∧ x3 = nI h ∧ x4 = nI ((List.range (i + 1)).flatMap g).length ∧ x5 = nI (i + 1) ∧ Ef n p b ((List.range (i + 1)).flatMap g) s x6) ∧ ∀ k, lyF N (t_X1_lay N F) k (nI p) (nI b) (nI h) (nI ((List.range i).flatMap g).length) (nI i) t = k x1 x2 x3 x4 x5 x6) := fun hz hk => by
          rw [rs, hz, List.append_nil]
          exact ⟨_, _, _, _, _, _, ⟨rfl, rfl, rfl, rfl, rfl, a6⟩, fun k => by rw [hk k]; unfold t_X1_lay_137; rw [bnd_e, nI_1]⟩
        have fr : ∀ k, lyF N (t_X1_lay N F) k (nI p) (nI b) (nI h) (nI ((List.range i).flatMap g).length) (nI i) t = if b.testBit i = true then t_X1_lay_137 N (t_X1_lay N F) k (nI p) (nI b) (nI h) (nI ((List.range i).flatMap g).length) (nI i) t else if cbl Z i p b v = true then (if chi Z se i (max h (Z 3 i)) = true then b2 (t_X1_lay N F (nI (p + 1)) (nI (b ||| 2 ^ i)) (nI (max h (Z 3 i))) (hset t 39 p (nI i))) (fun (r11 : Int32) (σ12 : Hp) => if r11 ≤ 0 then t_X1_lay_130 N (t_X1_lay N F) k (nI p) (nI b) (nI h) (nI ((List.range i).flatMap g).length) (nI i) r11 σ12 else Option.bind (t_X1_addOrders (nI i) (nI p) (nI b) r11 σ12) (fun σ13 : Hp => t_X1_lay_130 N (t_X1_lay N F) k (nI p) (nI b) (nI h) (nI ((List.range i).flatMap g).length) (nI i) r11 σ13)) else t_X1_lay_137 N (t_X1_lay N F) k (nI p) (nI b) (nI h) (nI ((List.range i).flatMap g).length) (nI i) t) else t_X1_lay_137 N (t_X1_lay N F) k (nI p) (nI b) (nI h) (nI ((List.range i).flatMap g).length) (nI i) t := fun k => by
          unfold lyF
          rw [zt.1, if_neg (nI_ge hi (by omega)), hasBit_7 hb hi7, bind_s, if_ne, canLay_e zt bz hn hi hp7 hb hvt, bind_s, bI_0, at_in hi7 (by omega), bind_s, (zt.2 i hi).2.2.2.1, mx2_e (by omega) (by omega), bnd_e, canHatch_e zt bz hn hi (Nat.max_le.mpr ⟨hh, hw⟩), bind_s, bI_0, put_in hp7 (by omega), bind_s, bit_e, bind_s, nI_1, (or_bit b hb i hi7).1]
        by_cases c1 : b.testBit i = true
        · exact Or.inr (none (by rw [gi0, if_pos c1]) (fun k => (fr k).trans (if_pos c1)))
        · by_cases c2 : cbl Z i p b v = true
          · by_cases c3 : chi Z se i (max h (Z 3 i)) = true
            · have z9 : ZT (hset t 39 p (nI i)) n Z se := ZT_f zt (by rw [hs_o (by decide)]) (fun a ha => by rw [hs_o (by omega)])
              obtain ⟨u, e1, f1⟩ := ih (p + 1) (b ||| 2 ^ i) (max h (Z 3 i)) i (hset t 39 p (nI i)) F (by omega) (by omega) (or_bit b hb i hi7).2 (Nat.max_le.mpr ⟨hh, hw⟩) z9 (fun _ => ⟨hs_eq, hi7⟩) (by rw [hs_o (by decide)]; exact t1)
              obtain ⟨Q, hQ⟩ : ∃ Q, acL n Z se d (p + 1) (b ||| 2 ^ i) (max h (Z 3 i)) i = Q := ⟨_, rfl⟩
              have lQ := acL_len (Z := Z) (se := se) hn d (p + 1) (b ||| 2 ^ i) (max h (Z 3 i)) i
              rw [hQ] at e1 f1 lQ
              have giQ : g i = Q.map (fun l => i :: l) := by rw [gi0, if_neg c1, if_pos (by rw [c2, c3]; rfl), hQ]
              have fr2 := fun k => ((fr k).trans (if_neg c1)).trans ((if_pos c2).trans (if_pos c3))
              by_cases c4 : Q.length = 0
              · have q0 : Q = [] := List.length_eq_zero_iff.mp c4
                subst q0
                have em := Ef_no (b := b) f1 hn hp
                refine Or.inr ⟨nI p, nI b, nI h, nI ((List.range (i + 1)).flatMap g).length, nI (i + 1), u, ⟨rfl, rfl, rfl, rfl, rfl, ?_⟩, fun k => ?_⟩
                · rw [rs, giQ]; exact Ef_tr a6 em
                · rw [rs, giQ]
                  refine (fr2 k).trans ?_
                  rw [e1, b2_s, if_pos (show nI ([] : List (List Nat)).length ≤ 0 by decide)]
                  unfold t_X1_lay_130 t_X1_lay_137
                  rw [bnd_e, bnd_e, nI_1, nI_add, List.length_append, List.length_map]
              · have em := Ef_one f1 hn hp hi7 c4
                refine Or.inr ⟨nI p, nI b, nI h, nI ((List.range (i + 1)).flatMap g).length, nI (i + 1), hset (hset u 41 (i * 7 + p) (u 41 (i * 7 + p) + nI Q.length)) 42 i (u 42 i ||| nI b), ⟨rfl, rfl, rfl, rfl, rfl, ?_⟩, fun k => ?_⟩
                · rw [rs, giQ]; exact Ef_tr a6 em
                · rw [rs, giQ, List.length_append, List.length_map]
                  refine (fr2 k).trans ?_
                  rw [e1, b2_s, if_neg (nI_nle (by omega) (by omega)), addO_e hi7 hp7, bind_s]
                  unfold t_X1_lay_130 t_X1_lay_137
                  rw [bnd_e, bnd_e, nI_1, nI_add]
            · exact Or.inr (none (by rw [gi0, if_neg c1, if_neg (fun w => c3 (by rw [Bool.and_eq_true] at w; exact w.2))]) (fun k => ((fr k).trans (if_neg c1)).trans ((if_pos c2).trans (if_neg c3))))
          · exact Or.inr (none (by rw [gi0, if_neg c1, if_neg (fun w => c2 (by rw [Bool.and_eq_true] at w; exact w.1))]) (fun k => ((fr k).trans (if_neg c1)).trans (if_neg c2)))
      · intro v1 v2 v3 v4 v5 t ⟨a1, a2, a3, a4, a5, a6⟩
        subst a4; subst a5
        refine ⟨(nI ((List.range n).flatMap g).length, t), ⟨rfl, a6⟩, fun k => ?_⟩
        show (if t 38 0 ≤ nI n then some (nI ((List.range n).flatMap g).length, t) else _) = _
        rw [a6.2.1, z.1, if_pos (nI_le (Nat.le_refl _) (by omega))]
    obtain ⟨⟨q, t⟩, q1, q2, q3⟩ := key
    refine ⟨t, ?_, q3⟩
    show t_X1_lay_F N (t_X1_lay N F) (nI p) (nI b) (nI h) s = _
    unfold t_X1_lay_F
    rw [z.1, if_neg (nI_ge hp (by omega)), show (7 : Int32) = nI 7 from rfl, if_pos (nI_lt hp7 (by omega)), q1]
    exact congrArg (fun x => some (x, t)) q2
theorem search_e {n N : Nat} {Z : Cp} {se : Nat → Int32} {s : Hp} (bz : BZ n Z) (h1n : 1 ≤ n) (hn : n ≤ 7) (hN : 60 < N) (z : ZT s n Z se) (h1 : s 38 1 = 0) (h41 : ∀ j, j < 49 → s 41 j = nI 0) (h42 : ∀ e, e < 7 → s 42 e = nI 0) : ∃ t, t_X1_search N s = some t ∧ t 38 0 = nI n ∧ t 38 1 = nI (acL n Z se n 0 0 0 0).length ∧ (∀ e q, e < 7 → q < n → t 41 (e * 7 + q) = nI (cQ (acL n Z se n 0 0 0 0) q e)) ∧ (∀ e, e < 7 → t 42 e = nI (oQ (acL n Z se n 0 0 0 0) 0 e)) ∧ (∀ l Q, acL n Z se n 0 0 0 0 = l :: Q → ∀ q, q < n → t 40 q = nI (rw7 l q)) ∧ ∀ a, (a < 38 ∨ 42 < a) → t a = s a := by
  obtain ⟨t, e1, f1⟩ := lay_e (N := N) bz h1n hn hN n 0 0 0 0 s 9 (by omega) (by omega) (by omega) (by omega) z (fun w => absurd w (by omega)) (Or.inl h1)
  obtain ⟨g1, g2, g3, g4, g5, g6, g7, g8, g9⟩ := f1
  refine ⟨hset t 38 1 (nI (acL n Z se n 0 0 0 0).length), ?_, by rw [hs_k (by decide), g2]; exact z.1, hs_eq, fun e q he hq => ?_, fun e he => ?_, fun l Q hl q hq => ?_, fun a ha => by rw [hs_o (by omega)]; exact g1 a ha⟩
  · unfold t_X1_search
    have : t_X1_lay N 9 0 0 0 s = some (nI (acL n Z se n 0 0 0 0).length, t) := e1
    rw [this, b2_s, bnd_e]
  · rw [hs_o (by decide), g4 e q he hq (by omega), h41 _ (by omega), nI_add, Nat.zero_add]; rfl
  · rw [hs_o (by decide), g6 e he, h42 e he, nI_or, Nat.zero_or]
  · rw [hs_o (by decide), g9 l Q hl h1 q hq, if_neg (by omega)]; rfl
