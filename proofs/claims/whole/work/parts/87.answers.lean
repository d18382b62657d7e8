/-! what is answered of orders that fit -/
theorem cQ_le (k e : Nat) : ∀ Q : List (List Nat), cQ Q k e ≤ Q.length
  | [] => Nat.le_refl _
  | l :: Q => by
    have := cQ_le k e Q
    show (if rw7 l k = e then 1 else 0) + cQ Q k e ≤ Q.length + 1
    split <;> omega
theorem hQ_le (e o : Nat) : ∀ Q : List (List Nat), hQ Q e o ≤ Q.length
  | [] => Nat.le_refl _
  | l :: Q => by
    have := hQ_le e o Q
    show (if ix l e < ix l o then 1 else 0) + hQ Q e o ≤ Q.length + 1
    split <;> omega
theorem hQ_all {e o : Nat} : ∀ Q : List (List Nat), hQ Q e o = Q.length ↔ ∀ l, l ∈ Q → ix l e < ix l o
  | [] => ⟨fun _ l hl => (by cases hl), fun _ => rfl⟩
  | l :: Q => by
    have h := hQ_le e o Q
    have ih := hQ_all (e := e) (o := o) Q
    show (if ix l e < ix l o then 1 else 0) + hQ Q e o = Q.length + 1 ↔ _
    rw [List.forall_mem_cons]
    by_cases c : ix l e < ix l o
    · rw [if_pos c, ← ih]
      exact ⟨fun z => ⟨c, by omega⟩, fun z => by omega⟩
    · rw [if_neg c]
      exact ⟨fun z => by omega, fun z => absurd z.1 c⟩
theorem hQ_no {e o : Nat} : ∀ Q : List (List Nat), hQ Q e o = 0 ↔ ∀ l, l ∈ Q → ¬ ix l e < ix l o
  | [] => ⟨fun _ l hl => (by cases hl), fun _ => rfl⟩
  | l :: Q => by
    have ih := hQ_no (e := e) (o := o) Q
    show (if ix l e < ix l o then 1 else 0) + hQ Q e o = 0 ↔ _
    rw [List.forall_mem_cons, ← ih]
    by_cases c : ix l e < ix l o
    · rw [if_pos c]
      exact ⟨fun z => by omega, fun z => absurd c z.1⟩
    · rw [if_neg c]
      exact ⟨fun z => ⟨c, by omega⟩, fun z => by omega⟩
def IJ (l : List Nat) : Prop := ∀ i j, i < l.length → j < l.length → rw7 l i = rw7 l j → i = j
theorem IJ_s {x : Nat} {l : List Nat} (h : IJ (x :: l)) : IJ l := fun i j hi hj e => by
  have := h (i + 1) (j + 1) (Nat.succ_lt_succ hi) (Nat.succ_lt_succ hj) e
  omega
theorem aB_tb {e o : Nat} : ∀ l b, IJ l → ((aB b l e).testBit o = true ↔ ix l e < l.length ∧ (b.testBit o = true ∨ ix l o < ix l e))
  | [], b, _ => ⟨fun h => by rw [show aB b [] e = 0 from rfl, Nat.zero_testBit] at h; exact absurd h (by decide), fun h => absurd h.1 (Nat.not_lt_zero _)⟩
  | x :: l, b, h => by
    have ih := aB_tb (e := e) (o := o) l (b ||| 2 ^ x) (IJ_s h)
    have ue : ix (x :: l) e = if x = e then 0 else ix l e + 1 := rfl
    have uo : ix (x :: l) o = if x = o then 0 else ix l o + 1 := rfl
    have ul : (x :: l).length = l.length + 1 := rfl
    show ((if x = e then b else 0) ||| aB (b ||| 2 ^ x) l e).testBit o = true ↔ _
    rw [Nat.testBit_or, Bool.or_eq_true, ih, ue, uo, ul]
    by_cases c : x = e
    · rw [if_pos c, if_pos c]
      constructor
      · rintro (z | ⟨z, _⟩)
        · exact ⟨Nat.succ_pos _, Or.inl z⟩
        · have q := ix_at l z
          have := h 0 (ix l e + 1) (Nat.succ_pos _) (Nat.succ_lt_succ z) (by show x = rw7 l (ix l e); rw [q]; exact c)
          omega
      · rintro ⟨_, z | z⟩
        · exact Or.inl z
        · exact absurd z (Nat.not_lt_zero _)
    · rw [if_neg c, if_neg c, Nat.zero_testBit, Nat.testBit_or, Bool.or_eq_true, Nat.testBit_two_pow, decide_eq_true_iff]
      by_cases c2 : x = o
      · rw [if_pos c2]
        constructor
        · rintro (z | ⟨z, _⟩)
          · exact absurd z (by decide)
          · exact ⟨by omega, Or.inr (by omega)⟩
        · intro ⟨z, _⟩
          exact Or.inr ⟨by omega, Or.inl (Or.inr c2)⟩
      · rw [if_neg c2]
        constructor
        · rintro (z | ⟨z, (z2 | z2) | z2⟩)
          · exact absurd z (by decide)
          · exact ⟨by omega, Or.inl z2⟩
          · exact absurd z2 c2
          · exact ⟨by omega, Or.inr (by omega)⟩
        · rintro ⟨z, z2 | z2⟩
          · exact Or.inr ⟨by omega, Or.inl (Or.inl z2)⟩
          · exact Or.inr ⟨by omega, Or.inr (by omega)⟩
theorem row_IJ {n : Nat} {l : List Nat} (h : l ∈ lexL n n 0) : IJ l := by
  obtain ⟨h1, h2, h3⟩ := lex_mem n 0 l h
  intro i j hi hj e
  rw [h1] at hi hj
  exact h3 i j hi hj e
theorem oQ_tb {n e o : Nat} (hn : n ≤ 7) (he : e < n) : ∀ A : List (List Nat), (∀ l, l ∈ A → l ∈ lexL n n 0) → ((oQ A 0 e).testBit o = true ↔ ∃ l, l ∈ A ∧ ix l o < ix l e)
  | [], _ => ⟨fun h => by rw [show oQ [] 0 e = 0 from rfl, Nat.zero_testBit] at h; exact absurd h (by decide), fun ⟨l, h, _⟩ => by cases h⟩
  | l :: A, hA => by
    have ih := oQ_tb (o := o) hn he A (fun x hx => hA x (List.mem_cons_of_mem _ hx))
    have hl := hA l List.mem_cons_self
    have pr := row_PR hn hl
    show (aB 0 l e ||| oQ A 0 e).testBit o = true ↔ _
    rw [Nat.testBit_or, Bool.or_eq_true, aB_tb l 0 (row_IJ hl), ih, Nat.zero_testBit, (lex_mem n 0 l hl).1]
    constructor
    · rintro (⟨_, z | z⟩ | ⟨x, z1, z2⟩)
      · exact absurd z (by decide)
      · exact ⟨l, List.mem_cons_self, z⟩
      · exact ⟨x, List.mem_cons_of_mem _ z1, z2⟩
    · rintro ⟨x, z1, z2⟩
      rcases List.mem_cons.mp z1 with z | z
      · subst z; exact Or.inl ⟨(pr.2 e he).1, Or.inr z2⟩
      · exact Or.inr ⟨x, z, z2⟩
theorem aB_lt {e : Nat} : ∀ l b, b < 2 ^ 7 → (∀ i, i < l.length → rw7 l i < 7) → aB b l e < 2 ^ 7
  | [], b, _, _ => by show 0 < _; decide
  | x :: l, b, hb, h => by
    have hx : x < 7 := h 0 (Nat.succ_pos _)
    have ih := aB_lt (e := e) l (b ||| 2 ^ x) (Nat.or_lt_two_pow hb (Nat.pow_lt_pow_right (by omega) hx)) (fun i hi => h (i + 1) (Nat.succ_lt_succ hi))
    refine Nat.or_lt_two_pow ?_ ih
    split
    · exact hb
    · decide
theorem oQ_lt {n e : Nat} (hn : n ≤ 7) : ∀ A : List (List Nat), (∀ l, l ∈ A → l ∈ lexL n n 0) → oQ A 0 e < 2 ^ 7
  | [], _ => by show 0 < _; decide
  | l :: A, hA => by
    have ih := oQ_lt (e := e) hn A (fun x hx => hA x (List.mem_cons_of_mem _ hx))
    obtain ⟨h1, h2, h3⟩ := lex_mem n 0 l (hA l List.mem_cons_self)
    exact Nat.or_lt_two_pow (aB_lt l 0 (by decide) (fun i hi => by have := (h2 i (by omega)).1; omega)) ih
theorem oW_e {s : Hp} {n e q : Nat} {A : List (List Nat)} (fx : FX n A s) (hn : n ≤ 7) (he : e < 7) (hq : q < n) : t_X1_ordersWith (nI e) (nI q) s = some (nI (cQ A q e)) := by
  unfold t_X1_ordersWith
  rw [show (7 : Int32) = nI 7 from rfl, pk_mul, nI_add, at_in (by omega) (by omega), bind_s, fx.2.2.1 e q he hq]
theorem M22_e {s : Hp} {n e q : Nat} {A : List (List Nat)} (c : Cn n A s) (hn : n ≤ 7) (he : e < n) (hq : q < n) : s 22 ((7 * nI e) + nI q).toNatClampNeg = nI (cQ A q e) := by
  rw [show (7 : Int32) = nI 7 from rfl, pk_mul, nI_add, nI_clamp (by omega)]; exact c.2.1 e q he hq
def plB (A : List (List Nat)) (e : Nat) : Nat → Nat
  | 0 => 0
  | q + 1 => if cQ A q e ≤ 0 then plB A e q else plB A e q ||| 2 ^ q
theorem plB_lt {A : List (List Nat)} {e : Nat} : ∀ q, q ≤ 7 → plB A e q < 128
  | 0, _ => by show 0 < 128; omega
  | q + 1, hq => by
    have ih := plB_lt (A := A) (e := e) q (by omega)
    unfold plB
    split
    · exact ih
    · exact (or_bit _ ih _ (by omega)).2
theorem placesX_e {N n e : Nat} {s : Hp} {A : List (List Nat)} (hN : 60 < N) (hn : n ≤ 7) (hA : A.length ≤ 5040) (fx : FX n A s) (he : e < n) : t_X1_placesOf N (nI e) s = some (nI (plB A e n)) := by
  unfold t_X1_placesOf t_X1_placesOf_4
  refine lr4 _ (fun _ => nI e) (fun q => nI (plB A e q)) (fun q => nI q) (fun _ => s) n _ ?_ ?_ N (by omega)
  · intro q hq k
    have hc := cQ_le q e A
    have hl := plB_lt (A := A) (e := e) q (by omega)
    have u : plB A e (q + 1) = if cQ A q e ≤ 0 then plB A e q else plB A e q ||| 2 ^ q := rfl
    show (if s 38 0 ≤ nI q then _ else _) = _
    unfold t_X1_placesOf_28
    rw [fx.1, if_neg (nI_ge hq (by omega)), oW_e fx hn (by omega) hq, bind_s, show (0 : Int32) = nI 0 from rfl, le_nI (by omega) (by omega), bit_e, bind_s, (or_bit _ hl q (by omega)).1, bnd_e, bnd_e, bnd_e, nI_1, u]
    split <;> rfl
  · intro k
    show (if s 38 0 ≤ nI n then _ else _) = _
    rw [fx.1, if_pos (nI_le (Nat.le_refl _) (by omega))]
theorem placesM_e {N n e : Nat} {s : Hp} {A : List (List Nat)} (hN : 60 < N) (hn : n ≤ 7) (hA : A.length ≤ 5040) (h0 : s 0 0 = nI n) (c : Cn n A s) (he : e < n) : t_X7_places_28 N N (nI e) 0 0 s = some (nI (plB A e n), s) := by
  unfold t_X7_places_28
  refine lr4 _ (fun _ => nI e) (fun q => nI (plB A e q)) (fun q => nI q) (fun _ => s) n _ ?_ ?_ N (by omega)
  · intro q hq k
    have hc := cQ_le q e A
    have hl := plB_lt (A := A) (e := e) q (by omega)
    have u : plB A e (q + 1) = if cQ A q e ≤ 0 then plB A e q else plB A e q ||| 2 ^ q := rfl
    show (if s 0 0 ≤ nI q then _ else _) = _
    unfold t_X7_places_61
    rw [h0, if_neg (nI_ge hq (by omega)), M22_e c hn he hq, show (7 : Int32) = nI 7 from rfl, pk_mul, nI_add, gi_in (by omega) (by omega), or_z, (or_bit _ hl q (by omega)).1, show (0 : Int32) = nI 0 from rfl, le_nI (by omega) (by omega), bnd_e, bnd_e, bnd_e, bnd_e, nI_1, u]
    split <;> rfl
  · intro k
    show (if s 0 0 ≤ nI n then _ else _) = _
    rw [h0, if_pos (nI_le (Nat.le_refl _) (by omega))]
def fsB (A : List (List Nat)) : Nat → Nat
  | 0 => 0
  | e + 1 => if cQ A 0 e ≤ 0 then fsB A e else fsB A e ||| 2 ^ e
theorem fsB_lt {A : List (List Nat)} : ∀ q, q ≤ 7 → fsB A q < 128
  | 0, _ => by show 0 < 128; omega
  | q + 1, hq => by
    have ih := fsB_lt (A := A) q (by omega)
    unfold fsB
    split
    · exact ih
    · exact (or_bit _ ih _ (by omega)).2
theorem firstsX_e {N n : Nat} {s : Hp} {A : List (List Nat)} (hN : 60 < N) (h1 : 1 ≤ n) (hn : n ≤ 7) (hA : A.length ≤ 5040) (fx : FX n A s) : t_X1_eggsAtFirstPlace N s = some (nI (fsB A n)) := by
  unfold t_X1_eggsAtFirstPlace t_X1_eggsAtFirstPlace_4
  refine lr3 _ (fun q => nI (fsB A q)) (fun q => nI q) (fun _ => s) n _ ?_ ?_ N (by omega)
  · intro q hq k
    have hc := cQ_le 0 q A
    have hl := fsB_lt (A := A) q (by omega)
    have u : fsB A (q + 1) = if cQ A 0 q ≤ 0 then fsB A q else fsB A q ||| 2 ^ q := rfl
    show (if s 38 0 ≤ nI q then _ else _) = _
    unfold t_X1_eggsAtFirstPlace_28
    rw [fx.1, if_neg (nI_ge hq (by omega)), show (0 : Int32) = nI 0 from rfl, oW_e fx hn (by omega) (by omega), bind_s, le_nI (by omega) (by omega), bit_e, bind_s, (or_bit _ hl q (by omega)).1, bnd_e, bnd_e, bnd_e, nI_1, u]
    split <;> rfl
  · intro k
    show (if s 38 0 ≤ nI n then _ else _) = _
    rw [fx.1, if_pos (nI_le (Nat.le_refl _) (by omega))]
theorem firstsM_e {N n : Nat} {s : Hp} {A : List (List Nat)} (hN : 60 < N) (h1 : 1 ≤ n) (hn : n ≤ 7) (hA : A.length ≤ 5040) (h0 : s 0 0 = nI n) (c : Cn n A s) : t_X7_firsts_17 N N 0 0 s = some (nI (fsB A n), s) := by
  unfold t_X7_firsts_17
  refine lr3 _ (fun q => nI (fsB A q)) (fun q => nI q) (fun _ => s) n _ ?_ ?_ N (by omega)
  · intro q hq k
    have hc := cQ_le 0 q A
    have hl := fsB_lt (A := A) q (by omega)
    have u : fsB A (q + 1) = if cQ A 0 q ≤ 0 then fsB A q else fsB A q ||| 2 ^ q := rfl
    have m := c.2.1 q 0 hq (by omega)
    rw [Nat.add_zero] at m
    show (if s 0 0 ≤ nI q then _ else _) = _
    unfold t_X7_firsts_45
    rw [h0, if_neg (nI_ge hq (by omega)), show (7 : Int32) = nI 7 from rfl, pk_mul, gi_in (by omega) (by omega), nI_clamp (by omega), m, or_z, (or_bit _ hl q (by omega)).1, show (0 : Int32) = nI 0 from rfl, le_nI (by omega) (by omega), bnd_e, bnd_e, bnd_e, bnd_e, nI_1, u]
    split <;> rfl
  · intro k
    show (if s 0 0 ≤ nI n then _ else _) = _
    rw [h0, if_pos (nI_le (Nat.le_refl _) (by omega))]
def mo (A : List (List Nat)) (e : Nat) : Nat → Nat
  | 0 => 0
  | q + 1 => max (mo A e q) (cQ A q e)
theorem mo_le {A : List (List Nat)} {e : Nat} : ∀ q, mo A e q ≤ A.length
  | 0 => Nat.zero_le _
  | q + 1 => Nat.max_le.mpr ⟨mo_le q, cQ_le q e A⟩
theorem mostX_e {N n e : Nat} {s : Hp} {A : List (List Nat)} (hN : 60 < N) (hn : n ≤ 7) (hA : A.length ≤ 5040) (fx : FX n A s) (he : e < n) : t_X1_mostLeft N (nI e) s = some (nI (mo A e n)) := by
  unfold t_X1_mostLeft t_X1_mostLeft_4
  refine lr4 _ (fun _ => nI e) (fun q => nI (mo A e q)) (fun q => nI q) (fun _ => s) n _ ?_ ?_ N (by omega)
  · intro q hq k
    have hc := cQ_le q e A
    have hl := mo_le (A := A) (e := e) q
    show (if s 38 0 ≤ nI q then _ else _) = _
    rw [fx.1, if_neg (nI_ge hq (by omega)), oW_e fx hn (by omega) hq, bind_s, mx2_e (by omega) (by omega), bnd_e, bnd_e, nI_1]; rfl
  · intro k
    show (if s 38 0 ≤ nI n then _ else _) = _
    rw [fx.1, if_pos (nI_le (Nat.le_refl _) (by omega))]
theorem mostM_e {N n e : Nat} {s : Hp} {A : List (List Nat)} (hN : 60 < N) (hn : n ≤ 7) (hA : A.length ≤ 5040) (h0 : s 0 0 = nI n) (c : Cn n A s) (he : e < n) : t_X7_mostAt N (nI e) s = some (nI (mo A e n)) := by
  unfold t_X7_mostAt t_X7_mostAt_4
  refine lr4 _ (fun _ => nI e) (fun q => nI (mo A e q)) (fun q => nI q) (fun _ => s) n _ ?_ ?_ N (by omega)
  · intro q hq k
    have hc := cQ_le q e A
    have hl := mo_le (A := A) (e := e) q
    have u : mo A e (q + 1) = max (mo A e q) (cQ A q e) := rfl
    show (if s 0 0 ≤ nI q then _ else _) = _
    unfold t_X7_mostAt_42
    rw [h0, if_neg (nI_ge hq (by omega)), M22_e c hn he hq, show (7 : Int32) = nI 7 from rfl, pk_mul, nI_add, gi_in (by omega) (by omega), gi_in (by omega) (by omega), le_nI (by omega) (by omega), bnd_e, bnd_e, nI_1, u]
    by_cases z : cQ A q e ≤ mo A e q
    · rw [if_pos z, Nat.max_eq_left z]
    · rw [if_neg z, Nat.max_eq_right (by omega)]
  · intro k
    show (if s 0 0 ≤ nI n then _ else _) = _
    rw [h0, if_pos (nI_le (Nat.le_refl _) (by omega))]
def bsE (A : List (List Nat)) (n : Nat) : Nat → Nat
  | 0 => 0
  | i + 1 => if mo A (bsE A n i) n ≤ mo A (i + 1) n then bsE A n i else i + 1
theorem bsE_le {A : List (List Nat)} {n : Nat} : ∀ i, bsE A n i ≤ i
  | 0 => Nat.le_refl _
  | i + 1 => by
    have := bsE_le (A := A) (n := n) i
    unfold bsE
    split <;> omega
theorem askX_e {N n w : Nat} {s : Hp} {A : List (List Nat)} (hN : 60 < N) (h1 : 1 ≤ n) (hn : n ≤ 7) (hA : A.length ≤ 5040) (h0 : s 2 0 = nI n) (fx : FX n A s) (hw : w ≤ 1) : t_X6_ask_41 N N (nI w) 0 1 s = some (nI (if w = 0 then bsE A n (n - 1) else mo A (bsE A n (n - 1)) n), s) := by
  unfold t_X6_ask_41
  refine lr4 _ (fun _ => nI w) (fun i => nI (bsE A n i)) (fun i => nI (i + 1)) (fun _ => s) (n - 1) _ ?_ ?_ N (by omega)
  · intro i hi k
    have hbl := bsE_le (A := A) (n := n) i
    have l1 := mo_le (A := A) (e := i + 1) n
    have l2 := mo_le (A := A) (e := bsE A n i) n
    have u : bsE A n (i + 1) = if mo A (bsE A n i) n ≤ mo A (i + 1) n then bsE A n i else i + 1 := rfl
    show (if s 2 0 ≤ nI (i + 1) then _ else _) = _
    unfold t_X6_ask_79
    rw [h0, if_neg (nI_ge (by omega) (by omega)), mostX_e hN hn hA fx (by omega), bind_s, mostX_e hN hn hA fx (by omega), bind_s, le_nI (by omega) (by omega), bnd_e, bnd_e, nI_1, u]
    split <;> rfl
  · intro k
    have hbl := bsE_le (A := A) (n := n) (n - 1)
    show (if s 2 0 ≤ nI (n - 1 + 1) then _ else _) = _
    rw [h0, if_pos (nI_le (by omega) (by omega)), mostX_e hN hn hA fx (by omega), bind_s, show (0 : Int32) = nI 0 from rfl, eq_nI (by omega) (by omega)]
    split <;> rfl
theorem askM_e {N n w : Nat} {s : Hp} {A : List (List Nat)} (hN : 60 < N) (h1 : 1 ≤ n) (hn : n ≤ 7) (hA : A.length ≤ 5040) (h0 : s 0 0 = nI n) (c : Cn n A s) (hw : w ≤ 1) : t_X7_ask_41 N N (nI w) 0 1 s = some (nI (if w = 0 then bsE A n (n - 1) else mo A (bsE A n (n - 1)) n), s) := by
  unfold t_X7_ask_41
  refine lr4 _ (fun _ => nI w) (fun i => nI (bsE A n i)) (fun i => nI (i + 1)) (fun _ => s) (n - 1) _ ?_ ?_ N (by omega)
  · intro i hi k
    have hbl := bsE_le (A := A) (n := n) i
    have l1 := mo_le (A := A) (e := i + 1) n
    have l2 := mo_le (A := A) (e := bsE A n i) n
    have u : bsE A n (i + 1) = if mo A (bsE A n i) n ≤ mo A (i + 1) n then bsE A n i else i + 1 := rfl
    show (if s 0 0 ≤ nI (i + 1) then _ else _) = _
    unfold t_X7_ask_70
    rw [h0, if_neg (nI_ge (by omega) (by omega)), mostM_e hN hn hA h0 c (by omega), bind_s, mostM_e hN hn hA h0 c (by omega), bind_s, le_nI (by omega) (by omega), bnd_e, bnd_e, nI_1, u]
    split <;> rfl
  · intro k
    have hbl := bsE_le (A := A) (n := n) (n - 1)
    show (if s 0 0 ≤ nI (n - 1 + 1) then _ else _) = _
    rw [h0, if_pos (nI_le (by omega) (by omega)), mostM_e hN hn hA h0 c (by omega), bind_s, show (0 : Int32) = nI 0 from rfl, eq_nI (by omega) (by omega)]
    split <;> rfl
