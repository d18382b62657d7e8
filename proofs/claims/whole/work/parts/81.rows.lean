/-! which rows fit, by places: clues -/
def okL (Z : Cp) (se : Nat → Int32) : Nat → Nat → Nat → Nat → List Nat → Bool
  | _, _, _, _, [] => true
  | p, b, h, v, e :: l => (cbl Z e p b v && chi Z se e (max h (Z 3 e))) && okL Z se (p + 1) (b ||| 2 ^ e) (max h (Z 3 e)) e l
theorem ac_flt {n : Nat} {Z : Cp} {se : Nat → Int32} : ∀ d p b h v, acL n Z se d p b h v = (lexL n d b).filter (okL Z se p b h v)
  | 0, _, _, _, _ => rfl
  | d + 1, p, b, h, v => by
    show (List.range n).flatMap (fun e => if b.testBit e = true then [] else if (cbl Z e p b v && chi Z se e (max h (Z 3 e))) = true then (acL n Z se d (p + 1) (b ||| 2 ^ e) (max h (Z 3 e)) e).map (fun l => e :: l) else []) = ((List.range n).flatMap (fun e => if b.testBit e = true then [] else (lexL n d (b ||| 2 ^ e)).map (fun l => e :: l))).filter (okL Z se p b h v)
    rw [List.filter_flatMap]
    refine congrArg (fun F => List.flatMap F (List.range n)) (funext fun e => ?_)
    by_cases c1 : b.testBit e = true
    · rw [if_pos c1, if_pos c1]; rfl
    · rw [if_neg c1, if_neg c1, List.filter_map]
      by_cases c2 : (cbl Z e p b v && chi Z se e (max h (Z 3 e))) = true
      · rw [if_pos c2, ac_flt d]
        refine congrArg (fun L => List.map (fun l => e :: l) L) (List.filter_congr (fun l _ => ?_))
        show _ = ((cbl Z e p b v && chi Z se e (max h (Z 3 e))) && okL Z se (p + 1) (b ||| 2 ^ e) (max h (Z 3 e)) e l)
        rw [c2, Bool.true_and]
      · rw [if_neg c2, List.filter_eq_nil_iff.mpr (fun l _ w => c2 (by
          have w' : ((cbl Z e p b v && chi Z se e (max h (Z 3 e))) && okL Z se (p + 1) (b ||| 2 ^ e) (max h (Z 3 e)) e l) = true := w
          rw [Bool.and_eq_true] at w'; exact w'.1))]; rfl
def bF (f : Nat → Nat) : Nat → Nat
  | 0 => 0
  | k + 1 => bF f k ||| 2 ^ f k
def mF (w f : Nat → Nat) : Nat → Nat
  | 0 => 0
  | k + 1 => max (mF w f k) (w (f k))
theorem bF_sh (x : Nat) (l : List Nat) : ∀ k, bF (rw7 (x :: l)) (k + 1) = 2 ^ x ||| bF (rw7 l) k
  | 0 => by show 0 ||| 2 ^ x = 2 ^ x ||| 0; rw [Nat.or_comm]
  | k + 1 => by
    show bF (rw7 (x :: l)) (k + 1) ||| 2 ^ (rw7 l k) = 2 ^ x ||| (bF (rw7 l) k ||| 2 ^ rw7 l k)
    rw [bF_sh x l k, Nat.or_assoc]
theorem mF_sh (w : Nat → Nat) (x : Nat) (l : List Nat) : ∀ k, mF w (rw7 (x :: l)) (k + 1) = max (w x) (mF w (rw7 l) k)
  | 0 => by show max 0 (w x) = max (w x) 0; rw [Nat.max_comm]
  | k + 1 => by
    show max (mF w (rw7 (x :: l)) (k + 1)) (w (rw7 l k)) = max (w x) (max (mF w (rw7 l) k) (w (rw7 l k)))
    rw [mF_sh w x l k, Nat.max_assoc]
theorem okL_iff {Z : Cp} {se : Nat → Int32} : ∀ l p b h v, okL Z se p b h v l = true ↔ ∀ k, k < l.length → cbl Z (rw7 l k) (p + k) (b ||| bF (rw7 l) k) (if k = 0 then v else rw7 l (k - 1)) = true ∧ chi Z se (rw7 l k) (max h (mF (Z 3) (rw7 l) (k + 1))) = true
  | [], _, _, _, _ => ⟨fun _ k hk => absurd hk (Nat.not_lt_zero k), fun _ => rfl⟩
  | e :: l, p, b, h, v => by
    have ih := okL_iff (Z := Z) (se := se) l (p + 1) (b ||| 2 ^ e) (max h (Z 3 e)) e
    show ((cbl Z e p b v && chi Z se e (max h (Z 3 e))) && okL Z se (p + 1) (b ||| 2 ^ e) (max h (Z 3 e)) e l) = true ↔ _
    rw [Bool.and_eq_true, Bool.and_eq_true, ih]
    have e0 : mF (Z 3) (rw7 (e :: l)) (0 + 1) = Z 3 e := Nat.zero_max _
    have sh : ∀ k, (cbl Z (rw7 l k) (p + 1 + k) (b ||| 2 ^ e ||| bF (rw7 l) k) (if k = 0 then e else rw7 l (k - 1)) = true ∧ chi Z se (rw7 l k) (max (max h (Z 3 e)) (mF (Z 3) (rw7 l) (k + 1))) = true) ↔ (cbl Z (rw7 (e :: l) (k + 1)) (p + (k + 1)) (b ||| bF (rw7 (e :: l)) (k + 1)) (if k + 1 = 0 then v else rw7 (e :: l) (k + 1 - 1)) = true ∧ chi Z se (rw7 (e :: l) (k + 1)) (max h (mF (Z 3) (rw7 (e :: l)) (k + 1 + 1))) = true) := fun k => by
      rw [bF_sh, mF_sh, if_neg (Nat.succ_ne_zero k), Nat.or_assoc, Nat.max_assoc, show p + 1 + k = p + (k + 1) by omega]
      have : (if k = 0 then e else rw7 l (k - 1)) = rw7 (e :: l) (k + 1 - 1) := by
        cases k with
        | zero => rfl
        | succ k => rfl
      rw [this]; exact Iff.rfl
    constructor
    · intro ⟨⟨h1, h2⟩, h3⟩ k hk
      cases k with
      | zero => exact ⟨by show cbl Z e p (b ||| 0) v = true; rw [Nat.or_zero]; exact h1, by rw [e0]; exact h2⟩
      | succ k => exact (sh k).mp (h3 k (Nat.lt_of_succ_lt_succ hk))
    · intro h4
      have g := h4 0 (Nat.succ_pos _)
      refine ⟨⟨?_, ?_⟩, fun k hk => (sh k).mpr (h4 (k + 1) (Nat.succ_lt_succ hk))⟩
      · have g1 : cbl Z e p (b ||| 0) v = true := g.1
        rw [Nat.or_zero] at g1; exact g1
      · have g2 := g.2
        rw [e0] at g2; exact g2
/-- a row and its places -/
def PR (n : Nat) (f g : Nat → Nat) : Prop := (∀ p, p < n → f p < n ∧ g (f p) = p) ∧ ∀ e, e < n → g e < n ∧ f (g e) = e
theorem bF_tb {f : Nat → Nat} {x : Nat} : ∀ k, (bF f k).testBit x = true ↔ ∃ q, q < k ∧ f q = x
  | 0 => ⟨fun h => by rw [show bF f 0 = 0 from rfl, Nat.zero_testBit] at h; exact absurd h (by decide), fun ⟨q, h, _⟩ => absurd h (Nat.not_lt_zero q)⟩
  | k + 1 => by
    show (bF f k ||| 2 ^ f k).testBit x = true ↔ _
    rw [Nat.testBit_or, Bool.or_eq_true, bF_tb k, Nat.testBit_two_pow, decide_eq_true_iff]
    constructor
    · rintro (⟨q, h1, h2⟩ | h)
      · exact ⟨q, by omega, h2⟩
      · exact ⟨k, by omega, h⟩
    · rintro ⟨q, h1, h2⟩
      by_cases c : q = k
      · subst c; exact Or.inr h2
      · exact Or.inl ⟨q, by omega, h2⟩
theorem sub_tb {a b : Nat} : (a ||| b) = b ↔ ∀ x, a.testBit x = true → b.testBit x = true := by
  constructor
  · intro h x hx
    rw [← h, Nat.testBit_or, hx, Bool.true_or]
  · intro h
    apply Nat.eq_of_testBit_eq
    intro x
    rw [Nat.testBit_or]
    cases hx : a.testBit x
    · rw [Bool.false_or]
    · rw [h x hx]; rfl
theorem no7 : ∀ o, o < 7 → ∀ p, p < 7 → (127 - 2 ^ o).testBit p = decide (o ≠ p) := by decide +kernel
theorem al7 : ∀ p, p < 7 → (127 : Nat).testBit p = true := by decide +kernel
theorem tAL_tb {n p e : Nat} {H : Cp} (b : BH n H) (hp : p < 7) : ∀ k, k ≤ 12 → ((tAL H e k).testBit p = true ↔ ∀ i, i < k → H 2 i = e → (H 1 i = 2 → H 3 i = p) ∧ (H 1 i = 3 → H 3 i ≠ p))
  | 0, _ => ⟨fun _ i hi => absurd hi (Nat.not_lt_zero i), fun _ => al7 p hp⟩
  | k + 1, hk => by
    have ih := tAL_tb (e := e) b hp k (by omega)
    have h3 := (b.2.2.1 k (by omega)).2.2
    have key : (tAL H e (k + 1)).testBit p = true ↔ (tAL H e k).testBit p = true ∧ (H 2 k = e → (H 1 k = 2 → H 3 k = p) ∧ (H 1 k = 3 → H 3 k ≠ p)) := by
      rw [show tAL H e (k + 1) = if H 1 k = 2 ∧ H 2 k = e then tAL H e k &&& 2 ^ H 3 k else if H 1 k = 3 ∧ H 2 k = e then tAL H e k &&& (127 - 2 ^ H 3 k) else tAL H e k from rfl]
      split
      · rename_i c
        rw [Nat.testBit_and, Bool.and_eq_true, Nat.testBit_two_pow, decide_eq_true_iff]
        exact ⟨fun z => ⟨z.1, fun _ => ⟨fun _ => z.2, fun w => by omega⟩⟩, fun z => ⟨z.1, (z.2 c.2).1 c.1⟩⟩
      · split
        · rename_i c0 c
          rw [Nat.testBit_and, Bool.and_eq_true, no7 _ h3 _ hp, decide_eq_true_iff]
          exact ⟨fun z => ⟨z.1, fun _ => ⟨fun w => by omega, fun _ => z.2⟩⟩, fun z => ⟨z.1, (z.2 c.2).2 c.1⟩⟩
        · rename_i c0 c
          exact ⟨fun z => ⟨z, fun w => ⟨fun w2 => absurd ⟨w2, w⟩ c0, fun w2 => absurd ⟨w2, w⟩ c⟩⟩, fun z => z.1⟩
    rw [key, ih]
    constructor
    · intro ⟨h1, h2⟩ i hi
      by_cases c : i = k
      · subst c; exact h2
      · exact h1 i (by omega)
    · intro h
      exact ⟨fun i hi => h i (by omega), h k (by omega)⟩
theorem tMA_tb {w e x : Nat} {H : Cp} : ∀ k, (tMA w H e k).testBit x = true ↔ ∃ i, i < k ∧ H 1 i = w ∧ H 3 i = e ∧ H 2 i = x
  | 0 => ⟨fun h => by rw [show tMA w H e 0 = 0 from rfl, Nat.zero_testBit] at h; exact absurd h (by decide), fun ⟨i, h, _⟩ => absurd h (Nat.not_lt_zero i)⟩
  | k + 1 => by
    have ih := tMA_tb (w := w) (e := e) (x := x) (H := H) k
    have key : (tMA w H e (k + 1)).testBit x = true ↔ (tMA w H e k).testBit x = true ∨ (H 1 k = w ∧ H 3 k = e ∧ H 2 k = x) := by
      rw [show tMA w H e (k + 1) = if H 1 k = w ∧ H 3 k = e then tMA w H e k ||| 2 ^ H 2 k else tMA w H e k from rfl]
      split
      · rename_i c
        rw [Nat.testBit_or, Bool.or_eq_true, Nat.testBit_two_pow, decide_eq_true_iff]
        exact ⟨fun z => z.elim Or.inl (fun y => Or.inr ⟨c.1, c.2, y⟩), fun z => z.elim Or.inl (fun y => Or.inr y.2.2)⟩
      · rename_i c
        exact ⟨Or.inl, fun z => z.elim id (fun y => absurd ⟨y.1, y.2.1⟩ c)⟩
    rw [key, ih]
    constructor
    · rintro (⟨i, h1, h2⟩ | h)
      · exact ⟨i, by omega, h2⟩
      · exact ⟨k, by omega, h⟩
    · rintro ⟨i, h1, h2⟩
      by_cases c : i = k
      · subst c; exact Or.inr h2
      · exact Or.inl ⟨i, by omega, h2⟩
theorem tMA_1 {e p v k : Nat} {H : Cp} : (tMA 1 H e k = 0 ∨ (0 < p ∧ tMA 1 H e k = 2 ^ v)) ↔ ∀ i, i < k → H 1 i = 1 → H 3 i = e → 0 < p ∧ H 2 i = v := by
  constructor
  · intro h i hi h1 h3
    have hb := (tMA_tb (w := 1) (e := e) (x := H 2 i) (H := H) k).mpr ⟨i, hi, h1, h3, rfl⟩
    rcases h with h | ⟨hp, h⟩
    · rw [h, Nat.zero_testBit] at hb; exact absurd hb (by decide)
    · rw [h, Nat.testBit_two_pow, decide_eq_true_iff] at hb; exact ⟨hp, hb.symm⟩
  · intro h
    by_cases c : tMA 1 H e k = 0
    · exact Or.inl c
    · obtain ⟨x, hx⟩ := Nat.exists_testBit_of_ne_zero c
      obtain ⟨i, hi, h1, h3, h2⟩ := (tMA_tb k).mp hx
      obtain ⟨g1, g2⟩ := h i hi h1 h3
      refine Or.inr ⟨g1, Nat.eq_of_testBit_eq (fun y => ?_)⟩
      rw [Nat.testBit_two_pow, Bool.eq_iff_iff, decide_eq_true_iff, tMA_tb]
      constructor
      · rintro ⟨j, hj, q1, q3, q2⟩
        rw [← q2]; exact (h j hj q1 q3).2.symm
      · intro hy
        exact ⟨i, hi, h1, h3, g2.trans hy⟩
def cOk (H : Cp) (g : Nat → Nat) (i : Nat) : Bool := if H 1 i = 0 then decide (g (H 2 i) < g (H 3 i)) else if H 1 i = 1 then decide (g (H 2 i) + 1 = g (H 3 i)) else if H 1 i = 2 then decide (g (H 2 i) = H 3 i) else decide (g (H 2 i) ≠ H 3 i)
def cAll (H : Cp) (g : Nat → Nat) : Nat → Bool
  | 0 => true
  | k + 1 => cAll H g k && cOk H g k
theorem cAll_iff {H : Cp} {g : Nat → Nat} : ∀ k, cAll H g k = true ↔ ∀ i, i < k → cOk H g i = true
  | 0 => ⟨fun _ i hi => absurd hi (Nat.not_lt_zero i), fun _ => rfl⟩
  | k + 1 => by
    show (cAll H g k && cOk H g k) = true ↔ _
    rw [Bool.and_eq_true, cAll_iff k]
    constructor
    · intro ⟨h1, h2⟩ i hi
      by_cases c : i = k
      · subst c; exact h2
      · exact h1 i (by omega)
    · intro h
      exact ⟨fun i hi => h i (by omega), h k (by omega)⟩
theorem cbl_iff {n e p b v : Nat} {H Z : Cp} (hb : BH n H) (hp : p < 7) (z0 : Z 0 e = tAL H e (H 0 0)) (z1 : Z 1 e = tMA 0 H e (H 0 0)) (z2 : Z 2 e = tMA 1 H e (H 0 0)) : cbl Z e p b v = true ↔ (∀ i, i < H 0 0 → H 2 i = e → (H 1 i = 2 → H 3 i = p) ∧ (H 1 i = 3 → H 3 i ≠ p)) ∧ (∀ x, (∃ i, i < H 0 0 ∧ H 1 i = 0 ∧ H 3 i = e ∧ H 2 i = x) → b.testBit x = true) ∧ ∀ i, i < H 0 0 → H 1 i = 1 → H 3 i = e → 0 < p ∧ H 2 i = v := by
  unfold cbl
  rw [Bool.and_eq_true, Bool.and_eq_true, Bool.or_eq_true, Bool.and_eq_true, decide_eq_true_iff, decide_eq_true_iff, decide_eq_true_iff, decide_eq_true_iff, z0, z1, z2, tAL_tb hb hp _ hb.1, sub_tb, tMA_1]
  refine and_congr_right (fun _ => and_congr_left (fun _ => ?_))
  exact forall_congr' (fun x => by rw [tMA_tb])
theorem clue_iff {n : Nat} {f g : Nat → Nat} {H Z : Cp} (hn : n ≤ 7) (pr : PR n f g) (hb : BH n H) (z : ∀ e, e < n → Z 0 e = tAL H e (H 0 0) ∧ Z 1 e = tMA 0 H e (H 0 0) ∧ Z 2 e = tMA 1 H e (H 0 0)) : (∀ p, p < n → cbl Z (f p) p (bF f p) (if p = 0 then 0 else f (p - 1)) = true) ↔ cAll H g (H 0 0) = true := by
  have ci := fun p (hp : p < n) => cbl_iff (b := bF f p) (v := if p = 0 then 0 else f (p - 1)) hb (show p < 7 by omega) (z (f p) (pr.1 p hp).1).1 (z (f p) (pr.1 p hp).1).2.1 (z (f p) (pr.1 p hp).1).2.2
  rw [cAll_iff]
  constructor
  · intro h i hi
    obtain ⟨ha, ho, hk⟩ := hb.2.2.2.2.1 i hi
    have hk3 := (hb.2.2.1 i (by have := hb.1; omega)).1
    obtain ⟨ga, fa⟩ := pr.2 _ ha
    obtain ⟨go, fo⟩ := pr.2 _ ho
    unfold cOk
    by_cases c0 : H 1 i = 0
    · rw [if_pos c0, decide_eq_true_iff]
      have := (ci _ go).mp (h _ go)
      rw [fo] at this
      obtain ⟨q, q1, q2⟩ := (bF_tb _).mp (this.2.1 (H 2 i) ⟨i, hi, c0, rfl, rfl⟩)
      rw [← q2, (pr.1 q (by omega)).2]; exact q1
    · rw [if_neg c0]
      by_cases c1 : H 1 i = 1
      · rw [if_pos c1, decide_eq_true_iff]
        have := (ci _ go).mp (h _ go)
        rw [fo] at this
        obtain ⟨q1, q2⟩ := this.2.2 i hi c1 rfl
        rw [if_neg (by omega)] at q2
        rw [q2, (pr.1 _ (by omega)).2]; omega
      · rw [if_neg c1]
        have := (ci _ ga).mp (h _ ga)
        rw [fa] at this
        have w := this.1 i hi rfl
        by_cases c2 : H 1 i = 2
        · rw [if_pos c2, decide_eq_true_iff]; exact (w.1 c2).symm
        · rw [if_neg c2, decide_eq_true_iff]; exact fun y => w.2 (by omega) y.symm
  · intro h p hp
    obtain ⟨fp, gp⟩ := pr.1 p hp
    refine (ci p hp).mpr ⟨fun i hi h2 => ?_, fun x ⟨i, hi, h1, h3, h2⟩ => ?_, fun i hi h1 h3 => ?_⟩
    · have w := h i hi
      unfold cOk at w
      constructor
      · intro k2
        rw [if_neg (by omega), if_neg (by omega), if_pos k2, decide_eq_true_iff, h2, gp] at w; exact w.symm
      · intro k3
        rw [if_neg (by omega), if_neg (by omega), if_neg (by omega), decide_eq_true_iff, h2, gp] at w; exact fun y => w y.symm
    · have w := h i hi
      unfold cOk at w
      rw [if_pos h1, decide_eq_true_iff, h3, gp, h2] at w
      have hx := (hb.2.2.2.2.1 i hi).1
      rw [h2] at hx
      exact (bF_tb _).mpr ⟨g x, w, (pr.2 x hx).2⟩
    · have w := h i hi
      unfold cOk at w
      rw [if_neg (by omega), if_pos h1, decide_eq_true_iff, h3, gp] at w
      refine ⟨by omega, ?_⟩
      rw [if_neg (by omega), show p - 1 = g (H 2 i) by omega]
      exact ((pr.2 _ (hb.2.2.2.2.1 i hi).1).2).symm
