/-! the class looks for orders -/
theorem nI_or (a b : Nat) : nI a ||| nI b = nI (a ||| b) := by
  apply Int32.toBitVec_inj.mp
  rw [Int32.toBitVec_or]
  exact (BitVec.ofNat_or).symm
theorem pw7 : ∀ g, g < 7 → ((1 : Int32) <<< (nI g &&& 31)) = nI (2 ^ g) := by decide +kernel
theorem sub7 : ∀ a, a < 128 → ∀ b, b < 128 → (nI a &&& (nI b ^^^ (-1))) = nI (a &&& (127 ^^^ b)) ∧ (a &&& (127 ^^^ b)) < 128 ∧ ((a &&& (127 ^^^ b)) = 0 ↔ (a ||| b) = b) := by decide +kernel
theorem le_m1 {α : Type} {h c : Nat} {x y : α} (hh : h < 2 ^ 31) (hc : c < 2 ^ 31) : (if nI h ≤ nI c + (-1) then x else y) = if h < c then x else y := by
  cases c with
  | zero =>
    have : ¬ nI h ≤ nI 0 + (-1) := fun z => nI_pos hh (by
      rw [show nI 0 + (-1) = (-1 : Int32) from rfl, Int32.le_iff_toInt_le] at z
      rw [Int32.lt_iff_toInt_lt]
      rw [show (-1 : Int32).toInt = -1 from rfl] at z
      rw [show (0 : Int32).toInt = 0 from rfl]; omega)
    rw [if_neg this, if_neg (by omega)]
  | succ c =>
    rw [nI_m1, le_nI hh (by omega)]
    by_cases g : h ≤ c
    · rw [if_pos g, if_pos (by omega)]
    · rw [if_neg g, if_neg (by omega)]
theorem or_zI (x : Int32) : x ||| nI 0 = x := by
  apply Int32.toBitVec_inj.mp
  rw [Int32.toBitVec_or, show (nI 0).toBitVec = 0#32 from rfl, BitVec.or_zero]
def ZT (s : Hp) (n : Nat) (Z : Cp) (se : Nat → Int32) : Prop := s 38 0 = nI n ∧ ∀ e, e < n → s 43 e = nI (Z 0 e) ∧ s 44 e = nI (Z 1 e) ∧ s 45 e = nI (Z 2 e) ∧ s 46 e = nI (Z 3 e) ∧ s 47 e = nI (Z 4 e) + (-1) ∧ s 48 e = se e
def BZ (n : Nat) (Z : Cp) : Prop := ∀ e, e < n → Z 0 e < 128 ∧ Z 1 e < 128 ∧ Z 2 e < 128 ∧ Z 3 e ≤ 1000 ∧ Z 4 e ≤ 1000
def cbl (Z : Cp) (e p b v : Nat) : Bool := (Z 0 e).testBit p && (decide ((Z 1 e ||| b) = b) && (decide (Z 2 e = 0) || (decide (0 < p) && decide (Z 2 e = 2 ^ v))))
def chi (Z : Cp) (se : Nat → Int32) (e h : Nat) : Bool := decide (Z 4 e ≤ h) && (decide (se e = (-1)) || decide (se e = nI h))
theorem canLay_e {s : Hp} {n e p b v : Nat} {Z : Cp} {se : Nat → Int32} (z : ZT s n Z se) (bz : BZ n Z) (hn : n ≤ 7) (he : e < n) (hp : p < 7) (hb : b < 128) (hv : 0 < p → s 39 (p - 1) = nI v ∧ v < 7) : t_X1_canBeLaid (nI e) (nI p) (nI b) s = some (bI (cbl Z e p b v)) := by
  obtain ⟨z0, z1, z2, z3, z4, z5⟩ := z.2 e he
  obtain ⟨y0, y1, y2, y3, y4⟩ := bz e he
  obtain ⟨q1, q2, q3⟩ := sub7 _ y1 _ hb
  unfold t_X1_canBeLaid t_X1_canBeLaid_69 t_X1_canBeLaid_73 cbl
  rw [at_in (by omega) (by omega), bind_s, z0, hasBit_7 y0 hp, bind_s, if_ne, at_in (by omega) (by omega), bind_s, z1, q1, at_in (by omega) (by omega), bind_s, z2, show (0 : Int32) = nI 0 from rfl, eq_nI (by omega) (by omega), eq_nI (by omega) (by omega), le_nI (by omega) (by omega)]
  by_cases c1 : (Z 0 e).testBit p = true
  · rw [if_pos c1, c1, Bool.true_and]
    by_cases c2 : (Z 1 e ||| b) = b
    · rw [if_pos (q3.mpr c2), decide_eq_true c2, Bool.true_and]
      by_cases c3 : Z 2 e = 0
      · rw [if_pos c3, decide_eq_true c3, Bool.true_or]; rfl
      · rw [if_neg c3, decide_eq_false c3, Bool.false_or]
        by_cases c4 : p ≤ 0
        · rw [if_pos c4, decide_eq_false (by omega), Bool.false_and]; rfl
        · obtain ⟨v1, v2⟩ := hv (by omega)
          have y2' : 2 ^ v < 128 := Nat.lt_of_lt_of_le (Nat.pow_lt_pow_right (by omega) v2) (by decide)
          rw [if_neg c4, decide_eq_true (by omega), Bool.true_and, show (1 : Int32) = nI 1 from rfl, pk_sub (by omega), at_in (by omega) (by omega), bind_s, v1, bit_e, bind_s, pw7 _ v2, eq_nI (by omega) (by omega)]
          by_cases c5 : Z 2 e = 2 ^ v
          · rw [if_pos c5, decide_eq_true c5]; rfl
          · rw [if_neg c5, decide_eq_false c5]; rfl
    · rw [if_neg (fun w => c2 (q3.mp w)), decide_eq_false c2, Bool.false_and]; rfl
  · rw [if_neg c1, show (Z 0 e).testBit p = false by simpa using c1, Bool.false_and]; rfl
theorem canHatch_e {s : Hp} {n e h : Nat} {Z : Cp} {se : Nat → Int32} (z : ZT s n Z se) (bz : BZ n Z) (hn : n ≤ 7) (he : e < n) (hh : h ≤ 1000) : t_X1_canHatchIn (nI e) (nI h) s = some (bI (chi Z se e h)) := by
  obtain ⟨z0, z1, z2, z3, z4, z5⟩ := z.2 e he
  obtain ⟨y0, y1, y2, y3, y4⟩ := bz e he
  unfold t_X1_canHatchIn t_X1_canHatchIn_31 t_X1_canHatchIn_35 chi
  rw [at_in (by omega) (by omega), bind_s, at_in (by omega) (by omega), bind_s, z4, z5, le_m1 (by omega) (by omega)]
  by_cases c1 : h < Z 4 e
  · rw [if_pos c1, decide_eq_false (by omega), Bool.false_and]; rfl
  · rw [if_neg c1, decide_eq_true (by omega), Bool.true_and]
    by_cases c2 : se e = (-1)
    · rw [if_pos c2, decide_eq_true c2, Bool.true_or]; rfl
    · rw [if_neg c2, decide_eq_false c2, Bool.false_or]
      by_cases c3 : se e = nI h
      · rw [if_pos c3, decide_eq_true c3]; rfl
      · rw [if_neg c3, decide_eq_false c3]; rfl
/-- how many rows of a list have e at k; which eggs stand ahead of e in some -/
def cQ : List (List Nat) → Nat → Nat → Nat
  | [], _, _ => 0
  | l :: Q, k, e => (if rw7 l k = e then 1 else 0) + cQ Q k e
def aB : Nat → List Nat → Nat → Nat
  | _, [], _ => 0
  | b, x :: l, e => (if x = e then b else 0) ||| aB (b ||| 2 ^ x) l e
def oQ : List (List Nat) → Nat → Nat → Nat
  | [], _, _ => 0
  | l :: Q, b, e => aB b l e ||| oQ Q b e
theorem cQ_app (k e : Nat) : ∀ Q R, cQ (Q ++ R) k e = cQ Q k e + cQ R k e
  | [], R => (Nat.zero_add _).symm
  | l :: Q, R => by show _ + cQ (Q ++ R) k e = _ + cQ Q k e + _; rw [cQ_app k e Q R]; omega
theorem oQ_app (b e : Nat) : ∀ Q R, oQ (Q ++ R) b e = oQ Q b e ||| oQ R b e
  | [], R => (Nat.zero_or _).symm
  | l :: Q, R => by show _ ||| oQ (Q ++ R) b e = (_ ||| oQ Q b e) ||| _; rw [oQ_app b e Q R, Nat.or_assoc]
theorem cQ_map0 (x e : Nat) : ∀ Q : List (List Nat), cQ (Q.map (fun l => x :: l)) 0 e = if e = x then Q.length else 0
  | [] => by show 0 = _; split <;> rfl
  | l :: Q => by
    show (if x = e then 1 else 0) + cQ (Q.map (fun l => x :: l)) 0 e = if e = x then Q.length + 1 else 0
    rw [cQ_map0 x e Q]
    by_cases h : e = x
    · rw [if_pos h, if_pos h, if_pos h.symm]; omega
    · rw [if_neg h, if_neg h, if_neg (fun z => h z.symm)]
theorem cQ_mapS (x k e : Nat) : ∀ Q : List (List Nat), cQ (Q.map (fun l => x :: l)) (k + 1) e = cQ Q k e
  | [] => rfl
  | l :: Q => by show (if rw7 l k = e then 1 else 0) + cQ (Q.map (fun l => x :: l)) (k + 1) e = _; rw [cQ_mapS x k e Q]; rfl
theorem oQ_map (x b e : Nat) : ∀ Q : List (List Nat), oQ (Q.map (fun l => x :: l)) b e = (if Q.length = 0 then 0 else if x = e then b else 0) ||| oQ Q (b ||| 2 ^ x) e
  | [] => by show 0 = (if (0 : Nat) = 0 then 0 else if x = e then b else 0) ||| 0; rw [if_pos rfl]; rfl
  | l :: Q => by
    show ((if x = e then b else 0) ||| aB (b ||| 2 ^ x) l e) ||| oQ (Q.map (fun l => x :: l)) b e = (if Q.length + 1 = 0 then 0 else if x = e then b else 0) ||| (aB (b ||| 2 ^ x) l e ||| oQ Q (b ||| 2 ^ x) e)
    rw [oQ_map x b e Q, if_neg (Nat.succ_ne_zero _)]
    generalize (if x = e then b else 0) = u
    generalize aB (b ||| 2 ^ x) l e = w
    generalize oQ Q (b ||| 2 ^ x) e = y
    split
    · rw [Nat.zero_or, Nat.or_assoc]
    · rw [Nat.or_assoc, ← Nat.or_assoc w u y, Nat.or_comm w u, Nat.or_assoc u w y, ← Nat.or_assoc u u, Nat.or_self]
/-- what the rows of a list, found behind the places below p, change -/
def Ef (n p b : Nat) (Q : List (List Nat)) (s t : Hp) : Prop :=
  (∀ a, (a < 38 ∨ 42 < a) → t a = s a) ∧ t 38 0 = s 38 0 ∧ (∀ q, q < p → t 39 q = s 39 q) ∧ (∀ e q, e < 7 → q < n → p ≤ q → t 41 (e * 7 + q) = s 41 (e * 7 + q) + nI (cQ Q (q - p) e)) ∧ (∀ e q, e < 7 → q < p → t 41 (e * 7 + q) = s 41 (e * 7 + q)) ∧ (∀ e, e < 7 → t 42 e = s 42 e ||| nI (oQ Q b e)) ∧ (t 38 1 = if Q.length = 0 then s 38 1 else 1) ∧ (Q.length = 0 ∨ s 38 1 ≠ 0 → t 40 = s 40) ∧ ∀ l Q', Q = l :: Q' → s 38 1 = 0 → ∀ q, q < n → t 40 q = if q < p then s 39 q else nI (rw7 l (q - p))
theorem Ef_rf {n p b : Nat} {s : Hp} : Ef n p b [] s s := ⟨fun _ _ => rfl, rfl, fun _ _ => rfl, fun e q _ _ _ => by show _ = _ + nI 0; rw [show nI 0 = (0 : Int32) from rfl, Int32.add_zero], fun _ _ _ _ => rfl, fun e _ => (or_zI _).symm, rfl, fun _ => rfl, fun l Q' h => by cases h⟩
theorem Ef_tr {n p b : Nat} {Q R : List (List Nat)} {s t u : Hp} (h : Ef n p b Q s t) (g : Ef n p b R t u) : Ef n p b (Q ++ R) s u := by
  obtain ⟨h1, h2, h3, h4, h5, h6, h7, h8, h9⟩ := h
  obtain ⟨g1, g2, g3, g4, g5, g6, g7, g8, g9⟩ := g
  refine ⟨fun a ha => (g1 a ha).trans (h1 a ha), g2.trans h2, fun q hq => (g3 q hq).trans (h3 q hq), fun e q he hq hp => ?_, fun e q he hq => (g5 e q he hq).trans (h5 e q he hq), fun e he => ?_, ?_, fun hz => ?_, fun l Q' hl hz q hq => ?_⟩
  · rw [g4 e q he hq hp, h4 e q he hq hp, cQ_app, Int32.add_assoc, nI_add]
  · rw [g6 e he, h6 e he, oQ_app, Int32.or_assoc, nI_or]
  · rw [g7, h7, List.length_append]
    by_cases c : Q.length = 0
    · rw [if_pos c, c, Nat.zero_add]
    · rw [if_neg c, if_neg (show ¬ Q.length + R.length = 0 by omega)]; split <;> rfl
  · rw [List.length_append] at hz
    have t1 : R.length = 0 ∨ t 38 1 ≠ 0 := by
      rcases hz with hz | hz
      · exact Or.inl (by omega)
      · refine Or.inr ?_
        rw [h7]; split
        · exact hz
        · decide
    rw [g8 t1, h8 (hz.elim (fun w => Or.inl (by omega)) Or.inr)]
  · cases Q with
    | nil =>
      have e1 : t 38 1 = 0 := h7.trans ((if_pos (show ([] : List (List Nat)).length = 0 from rfl)).trans hz)
      rw [g9 l Q' hl e1 q hq]
      split
      · exact h3 q (by assumption)
      · rfl
    | cons x Q =>
      have hx : x = l := by
        have : x :: (Q ++ R) = l :: Q' := hl
        exact (List.cons.inj this).1
      have e1 : t 38 1 = 1 := h7.trans (if_neg (show ¬ (x :: Q).length = 0 from Nat.succ_ne_zero _))
      rw [g8 (Or.inr (by rw [e1]; decide)), ← hx]
      exact h9 x Q rfl hz q hq
theorem Ef_no {n p b b' x : Nat} {s t : Hp} (h : Ef n (p + 1) b' [] (hset s 39 p (nI x)) t) (hn : n ≤ 7) (hp : p < n) : Ef n p b [] s t := by
  obtain ⟨h1, h2, h3, h4, h5, h6, h7, h8, h9⟩ := h
  refine ⟨fun a ha => by rw [h1 a ha, hs_o (by omega)], by rw [h2, hs_o (by decide)], fun q hq => by rw [h3 q (by omega), hs_k (by omega)], fun e q he hq hpq => ?_, fun e q he hq => by rw [h5 e q he (by omega), hs_o (by decide)], fun e he => by rw [h6 e he, hs_o (by decide)]; rfl, by rw [h7, hs_o (by decide)], fun _ => by rw [h8 (Or.inl rfl), hs_o (by decide)], fun l Q' hl => by cases hl⟩
  by_cases c : q = p
  · rw [h5 e q he (by omega), hs_o (by decide)]; show _ = _ + nI 0; rw [show nI 0 = (0 : Int32) from rfl, Int32.add_zero]
  · rw [h4 e q he hq (by omega), hs_o (by decide)]; rfl
theorem Ef_one {n p b x : Nat} {Q : List (List Nat)} {s t : Hp} (h : Ef n (p + 1) (b ||| 2 ^ x) Q (hset s 39 p (nI x)) t) (hn : n ≤ 7) (hp : p < n) (hx : x < 7) (hQ : Q.length ≠ 0) : Ef n p b (Q.map (fun l => x :: l)) s (hset (hset t 41 (x * 7 + p) (t 41 (x * 7 + p) + nI Q.length)) 42 x (t 42 x ||| nI b)) := by
  obtain ⟨h1, h2, h3, h4, h5, h6, h7, h8, h9⟩ := h
  refine ⟨fun a ha => by rw [hs_o (by omega), hs_o (by omega), h1 a ha, hs_o (by omega)], by rw [hs_o (by decide), hs_o (by decide), h2, hs_o (by decide)], fun q hq => by rw [hs_o (by decide), hs_o (by decide), h3 q (by omega), hs_k (by omega)], fun e q he hq hpq => ?_, fun e q he hq => by rw [hs_o (by decide), hs_k (by omega), h5 e q he (by omega), hs_o (by decide)], fun e he => ?_, ?_, fun hz => ?_, fun l Q' hl hz q hq => ?_⟩
  · rw [hs_o (by decide)]
    by_cases c : q = p
    · subst c
      rw [Nat.sub_self, cQ_map0]
      by_cases ce : e = x
      · subst ce; rw [hs_eq, if_pos rfl, h5 e q he (by omega), hs_o (by decide)]
      · rw [if_neg ce, hs_k (by omega), h5 e q he (by omega), hs_o (by decide), show nI 0 = (0 : Int32) from rfl, Int32.add_zero]
    · rw [hs_k (by omega), h4 e q he hq (by omega), hs_o (by decide), show q - p = (q - (p + 1)) + 1 by omega, cQ_mapS]
  · rw [oQ_map, if_neg hQ]
    by_cases ce : e = x
    · subst ce
      rw [hs_eq, h6 e he, hs_o (by decide), if_pos rfl, Int32.or_assoc, nI_or, Nat.or_comm (oQ Q (b ||| 2 ^ e) e) b]
    · rw [hs_k ce, hs_o (by decide), h6 e he, hs_o (by decide), if_neg (fun z => ce z.symm), Nat.zero_or]
  · rw [hs_o (by decide), hs_o (by decide), h7, List.length_map, if_neg hQ, if_neg hQ]
  · rw [hs_o (by decide), hs_o (by decide)]
    rw [List.length_map] at hz
    rw [h8 (hz.elim (fun w => Or.inl w) (fun w => Or.inr (by rw [hs_o (by decide)]; exact w))), hs_o (by decide)]
  · rw [hs_o (by decide), hs_o (by decide)]
    cases Q with
    | nil => exact absurd rfl hQ
    | cons y Q =>
      have hy : x :: y = l := by
        have : (x :: y) :: Q.map (fun l => x :: l) = l :: Q' := hl
        exact (List.cons.inj this).1
      rw [h9 y Q rfl (by rw [hs_o (by decide)]; exact hz) q hq, ← hy]
      by_cases c : q < p
      · rw [if_pos c, if_pos (by omega), hs_k (by omega)]
      · rw [if_neg c]
        by_cases c2 : q = p
        · subst c2; rw [if_pos (by omega), hs_eq, Nat.sub_self]; rfl
        · rw [if_neg (by omega), show q - p = (q - (p + 1)) + 1 by omega]; rfl
