/-! the pad read as an order -/
def dgt (n x : Nat) : Bool := decide (48 ≤ x) && decide (x < 48 + n)
def hsg (x : Nat) : Bool := decide (65 ≤ x) && decide (x ≤ 70)
theorem dgt_i {n x : Nat} (h : dgt n x = true) : 48 ≤ x ∧ x < 48 + n := by
  unfold dgt at h; rw [Bool.and_eq_true, decide_eq_true_eq, decide_eq_true_eq] at h; exact h
theorem hsg_i {x : Nat} (h : hsg x = true) : 65 ≤ x ∧ x ≤ 70 := by
  unfold hsg at h; rw [Bool.and_eq_true, decide_eq_true_eq, decide_eq_true_eq] at h; exact h
theorem dgt_w : ∀ x, x < 127 → ∀ n, n < 8 → t_X6_isWithin (nI x) 48 ((48 + nI n) - 1) = some (bI (dgt n x)) := by decide +kernel
theorem dgt_g : ∀ x, x < 127 → ∀ n, n < 8 → (if nI x - 48 < 0 ∨ nI n ≤ nI x - 48 then (0 : Int32) else 1) = bI (dgt n x) := by decide +kernel
theorem hsg_w : ∀ x, x < 127 → t_X6_isHouseSign (nI x) = some (bI (hsg x)) := by decide +kernel
theorem hsg_g : ∀ x, x < 127 → t_X7_isHouse (nI x - 65) = some (bI (hsg x)) := by decide +kernel
theorem zb_I {α : Type} (b : Bool) (t : Option α) : zb (bI b) t = t := by cases b <;> rfl
theorem bI_c {α : Type} {b : Bool} {x y : α} : (if bI b = nI 0 then x else y) = if b = true then y else x := by cases b <;> rfl
def PadX (σ : Hp) (pn : Nat) (P : Nat → Nat) : Prop := σ 31 0 = nI pn ∧ pn ≤ 60 ∧ ∀ i, i < 60 → σ 32 i = nI (P i) ∧ P i < 127
def PadM (τ : Hp) (pn : Nat) (P : Nat → Nat) : Prop := τ 0 16 = nI pn ∧ pn ≤ 60 ∧ ∀ i, i < 60 → τ 12 i = nI (P i) ∧ P i < 127
theorem RP_X {σ τ : Hp} {pn : Nat} {P : Nat → Nat} (h : RP σ τ pn P) : PadX σ pn P := ⟨h.1, h.2.2.1, fun i hi => ⟨(h.2.2.2 i hi).1, by have := (h.2.2.2 i hi).2.2; omega⟩⟩
theorem RP_M {σ τ : Hp} {pn : Nat} {P : Nat → Nat} (h : RP σ τ pn P) : PadM τ pn P := ⟨h.2.1, h.2.2.1, fun i hi => ⟨(h.2.2.2 i hi).2.1, by have := (h.2.2.2 i hi).2.2; omega⟩⟩
theorem sign_e {σ : Hp} {pn i : Nat} {P : Nat → Nat} (h : PadX σ pn P) (hi : i < 60) : t_X3_sign (nI i) σ = some (nI (P i)) := by
  unfold t_X3_sign; rw [at_in hi (by omega), (h.2.2 i hi).1, bind_s]
theorem isDigit_e {σ : Hp} {pn i n : Nat} {P : Nat → Nat} (h : PadX σ pn P) (hi : i < 60) (hn : n < 8) : t_X3_isDigitOfEgg (nI i) (nI n) σ = some (bI (dgt n (P i))) := by
  unfold t_X3_isDigitOfEgg
  rw [sign_e h hi, bind_s, dgt_w _ (h.2.2 i hi).2 n hn, bind_s, zb_I]
def oF (P : Nat → Nat) (n pn : Nat) : Nat → Nat → Nat → Int32
  | 0, _, _ => if n ≤ pn then (-6) else nI pn
  | d + 1, i, b => if n ≤ i then nI i else if dgt n (P i) = true then (if b.testBit (P i - 48) = true then nI i else oF P n pn d (i + 1) (b ||| 2 ^ (P i - 48))) else nI i
def GI (P : Nat → Nat) (n i b : Nat) : Prop := i ≤ n ∧ b < 128 ∧ (∀ j, j < i → dgt n (P j) = true) ∧ (∀ j k, j < i → k < i → P j = P k → j = k) ∧ ∀ x, b.testBit x = true ↔ ∃ j, j < i ∧ P j = 48 + x
theorem GI_0 (P : Nat → Nat) (n : Nat) : GI P n 0 0 := ⟨Nat.zero_le _, by omega, fun j hj => absurd hj (Nat.not_lt_zero j), fun j k hj => absurd hj (Nat.not_lt_zero j), fun x => ⟨fun h => (by rw [Nat.zero_testBit] at h; exact absurd h (by decide)), fun ⟨j, hj, _⟩ => absurd hj (Nat.not_lt_zero j)⟩⟩
theorem GI_s {P : Nat → Nat} {n i b : Nat} (g : GI P n i b) (hn : n ≤ 7) (hi : i < n) (hd : dgt n (P i) = true) (hb : ¬ b.testBit (P i - 48) = true) : GI P n (i + 1) (b ||| 2 ^ (P i - 48)) := by
  obtain ⟨g1, g2, g3, g4, g5⟩ := g
  have d := dgt_i hd
  refine ⟨by omega, (or_bit b g2 (P i - 48) (by omega)).2, fun j hj => ?_, fun j k hj hk e => ?_, fun x => ?_⟩
  · rcases (show j = i ∨ j < i by omega) with rfl | h
    · exact hd
    · exact g3 j h
  · have no : ∀ j, j < i → P j ≠ P i := fun j hj e => hb ((g5 _).mpr ⟨j, hj, by omega⟩)
    rcases (show j = i ∨ j < i by omega) with rfl | h
    · rcases (show k = j ∨ k < j by omega) with rfl | h2
      · rfl
      · exact absurd e.symm (no k h2)
    · rcases (show k = i ∨ k < i by omega) with rfl | h2
      · exact absurd e (no j h)
      · exact g4 j k h h2 e
  · rw [Nat.testBit_or, Bool.or_eq_true, Nat.testBit_two_pow, decide_eq_true_eq, g5]
    constructor
    · rintro (⟨j, hj, e⟩ | e)
      · exact ⟨j, by omega, e⟩
      · exact ⟨i, by omega, by omega⟩
    · rintro ⟨j, hj, e⟩
      rcases (show j = i ∨ j < i by omega) with rfl | h
      · exact Or.inr (by omega)
      · exact Or.inl ⟨j, h, e⟩
theorem cnt_true : ∀ n, cnt (fun _ => true) n = n
  | 0 => rfl
  | n + 1 => by show cnt _ n + (if true = true then 1 else 0) = _; rw [cnt_true n, if_pos rfl]
theorem surj {π : Nat → Nat} {n e : Nat} (h1 : ∀ p, p < n → π p < n) (h2 : ∀ p q, p < n → q < n → π p = π q → p = q) (he : e < n) : ∃ p, p < n ∧ π p = e := by
  by_cases h : ∃ p, p < n ∧ π p = e
  · exact h
  · have c1 := cnt_inj (π := π) (n := n) n (fun x => x != e) h1 h2
    have c2 : cnt (fun p => (fun x => x != e) (π p)) n = cnt (fun _ => true) n := cnt_ext n (fun p hp => by
      show (π p != e) = true
      rw [bne_iff_ne]; exact fun z => h ⟨p, hp, z⟩)
    have c3 := cnt_rm (fun _ => true) e n
    rw [if_pos ⟨he, rfl⟩, cnt_true] at c3
    have c4 : cnt (fun x => true && x != e) n = cnt (fun x => x != e) n := cnt_ext n (fun i _ => Bool.true_and _)
    rw [c2, cnt_true] at c1
    omega
theorem GI_full {P : Nat → Nat} {n b x : Nat} (g : GI P n n b) (hx : dgt n x = true) : b.testBit (x - 48) = true := by
  obtain ⟨g1, g2, g3, g4, g5⟩ := g
  have d := dgt_i hx
  obtain ⟨p, hp, e⟩ := surj (π := fun j => P j - 48) (n := n) (e := x - 48) (fun p hp => by have := dgt_i (g3 p hp); show P p - 48 < n; omega) (fun p q hp hq e => g4 p q hp hq (by have := dgt_i (g3 p hp); have := dgt_i (g3 q hq); have e' : P p - 48 = P q - 48 := e; omega)) (by omega)
  have e' : P p - 48 = x - 48 := e
  have := dgt_i (g3 p hp)
  exact (g5 _).mpr ⟨p, hp, by omega⟩
theorem m6_ne {k : Nat} (hk : k < 2 ^ 31) : ¬ nI k = (-6) := fun e => nI_pos hk (by rw [e]; decide)
theorem oF_ok {P : Nat → Nat} {n pn : Nat} (hn : n ≤ 7) (hp : pn ≤ 60) : ∀ d i b, GI P n i b → i + d = pn → oF P n pn d i b = (-6) → pn = n ∧ ∃ b', GI P n n b'
  | 0, i, b, g, hi, h => by
    have h' : (if n ≤ pn then (-6 : Int32) else nI pn) = (-6) := h
    by_cases c : n ≤ pn
    · have e : pn = n := by have := g.1; omega
      have e2 : i = n := by omega
      rw [e2] at g
      exact ⟨e, b, g⟩
    · rw [if_neg c] at h'; exact absurd h' (m6_ne (by omega))
  | d + 1, i, b, g, hi, h => by
    have h' : (if n ≤ i then nI i else if dgt n (P i) = true then (if b.testBit (P i - 48) = true then nI i else oF P n pn d (i + 1) (b ||| 2 ^ (P i - 48))) else nI i) = (-6) := h
    have ni := m6_ne (k := i) (by omega)
    by_cases c : n ≤ i
    · rw [if_pos c] at h'; exact absurd h' ni
    · rw [if_neg c] at h'
      by_cases c2 : dgt n (P i) = true
      · rw [if_pos c2] at h'
        by_cases c3 : b.testBit (P i - 48) = true
        · rw [if_pos c3] at h'; exact absurd h' ni
        · rw [if_neg c3] at h'
          exact oF_ok hn hp d (i + 1) _ (GI_s g hn (by omega) c2 c3) (by omega) h'
      · rw [if_neg c2] at h'; exact absurd h' ni
theorem oF_v {P : Nat → Nat} {n pn : Nat} (hp : pn ≤ 60) : ∀ d i b, i + d = pn → oF P n pn d i b = (-6) ∨ ∃ k, k ≤ 60 ∧ oF P n pn d i b = nI k
  | 0, i, b, hi => by
    show (if n ≤ pn then (-6 : Int32) else nI pn) = (-6) ∨ ∃ k, k ≤ 60 ∧ (if n ≤ pn then (-6 : Int32) else nI pn) = nI k
    by_cases c : n ≤ pn
    · rw [if_pos c]; exact Or.inl rfl
    · rw [if_neg c]; exact Or.inr ⟨pn, hp, rfl⟩
  | d + 1, i, b, hi => by
    have ih := oF_v (P := P) (n := n) hp d (i + 1) (b ||| 2 ^ (P i - 48)) (by omega)
    unfold oF
    by_cases c : n ≤ i
    · rw [if_pos c]; exact Or.inr ⟨i, by omega, rfl⟩
    · rw [if_neg c]
      by_cases c2 : dgt n (P i) = true
      · rw [if_pos c2]
        by_cases c3 : b.testBit (P i - 48) = true
        · rw [if_pos c3]; exact Or.inr ⟨i, by omega, rfl⟩
        · rw [if_neg c3]; exact ih
      · rw [if_neg c2]; exact Or.inr ⟨i, by omega, rfl⟩
theorem ordX_e {σ : Hp} {N n pn : Nat} {P : Nat → Nat} (h : PadX σ pn P) (hn : n ≤ 7) (hN : 60 < N) : t_X3_orderFault N (nI n) σ = some (oF P n pn pn 0 0) := by
  have hp := h.2.1
  have key : ∃ q, t_X3_orderFault N (nI n) σ = some q ∧ q = oF P n pn pn 0 0 := by
    unfold t_X3_orderFault t_X3_orderFault_4
    refine li4 _ (fun i v1 v2 v3 s => v1 = nI n ∧ v3 = nI i ∧ s = σ ∧ ∃ b, v2 = nI b ∧ b < 128 ∧ oF P n pn (pn - i) i b = oF P n pn pn 0 0) _ pn ?_ ?_ N (nI n) 0 0 σ (by omega) ⟨rfl, rfl, rfl, 0, rfl, by omega, rfl⟩
    · intro i v1 v2 v3 s hi ⟨a1, a2, a3, b, a4, a5, a6⟩
      subst a1; subst a2; subst a3; subst a4
      have hx := (h.2.2 i (by omega)).2
      have u : oF P n pn (pn - i) i b = if n ≤ i then nI i else if dgt n (P i) = true then (if b.testBit (P i - 48) = true then nI i else oF P n pn (pn - (i + 1)) (i + 1) (b ||| 2 ^ (P i - 48))) else nI i := by
        rw [show pn - i = (pn - (i + 1)) + 1 by omega]; rfl
      rw [a6] at u
      have fr : ∀ k : Int32 → Int32 → Int32 → Hp → Option Int32, (if (s 31 0) ≤ (nI i) then if (nI n) ≤ (s 31 0) then some (-6) else some (s 31 0) else if (nI n) ≤ (nI i) then some (nI i) else Option.bind (t_X3_isDigitOfEgg (nI i) (nI n) s) (fun r1 : Int32 => if r1 = 0 then some (nI i) else Option.bind (t_X3_sign (nI i) s) (fun r2 : Int32 => Option.bind (t_X6_hasBit (nI b) (r2 - 48)) (fun r3 : Int32 => if r3 = 0 then Option.bind (t_X3_sign (nI i) s) (fun r4 : Int32 => Option.bind (t_X6_bit (r4 - 48)) (fun r5 : Int32 => bnd ((nI b) ||| r5) (fun x6 : Int32 => bnd ((nI i) + 1) (fun x7 : Int32 => k (nI n) x6 x7 s)))) else some (nI i))))) = if n ≤ i then some (nI i) else if dgt n (P i) = true then (if b.testBit (P i - 48) = true then some (nI i) else k (nI n) (nI (b ||| 2 ^ (P i - 48))) (nI (i + 1)) s) else some (nI i) := by
        intro k
        rw [h.1, if_neg (nI_ge hi (by omega)), le_nI (by omega) (by omega), isDigit_e h (by omega) (by omega), bind_s, bI_0]
        by_cases c : n ≤ i
        · rw [if_pos c, if_pos c]
        · rw [if_neg c, if_neg c]
          by_cases c2 : dgt n (P i) = true
          · have d := dgt_i c2
            rw [if_pos c2, if_pos c2, sign_e h (by omega), bind_s, show (48 : Int32) = nI 48 from rfl, pk_sub d.1, hasBit_7 a5 (by omega), bind_s, if_ne, bind_s, pk_sub d.1, bit_e, bind_s, bnd_e, bnd_e, (or_bit b a5 (P i - 48) (by omega)).1, nI_1]
          · rw [if_neg c2, if_neg c2]
      by_cases c : n ≤ i
      · rw [if_pos c] at u
        exact Or.inl ⟨nI i, u.symm, fun k => (fr k).trans (by rw [if_pos c])⟩
      · rw [if_neg c] at u
        by_cases c2 : dgt n (P i) = true
        · have d := dgt_i c2
          rw [if_pos c2] at u
          by_cases c3 : b.testBit (P i - 48) = true
          · rw [if_pos c3] at u
            exact Or.inl ⟨nI i, u.symm, fun k => (fr k).trans (by rw [if_neg c, if_pos c2, if_pos c3])⟩
          · rw [if_neg c3] at u
            exact Or.inr ⟨nI n, nI (b ||| 2 ^ (P i - 48)), nI (i + 1), s, ⟨rfl, rfl, rfl, _, rfl, (or_bit b a5 (P i - 48) (by omega)).2, u.symm⟩, fun k => (fr k).trans (by rw [if_neg c, if_pos c2, if_neg c3])⟩
        · rw [if_neg c2] at u
          exact Or.inl ⟨nI i, u.symm, fun k => (fr k).trans (by rw [if_neg c, if_neg c2])⟩
    · intro v1 v2 v3 s ⟨a1, a2, a3, b, a4, a5, a6⟩
      subst a1; subst a2; subst a3; subst a4
      rw [Nat.sub_self] at a6
      refine ⟨oF P n pn 0 pn b, a6, fun k => ?_⟩
      show (if s 31 0 ≤ nI pn then (if nI n ≤ s 31 0 then some (-6) else some (s 31 0)) else _) = _
      rw [h.1, if_pos (nI_le (Nat.le_refl _) (by omega)), le_nI (by omega) (by omega)]
      show _ = some (if n ≤ pn then (-6) else nI pn)
      split <;> rfl
  obtain ⟨q, q1, q2⟩ := key
  rw [q1, q2]
theorem isEggS {τ : Hp} {C : Cp} (r : RM τ C) (b : BC C) {x : Nat} (hx : x < 127) : t_X7_isEgg (nI x - 48) τ = some (bI (dgt (C 0 0) x)) := by
  rw [isEgg_e r b, dgt_g x hx (C 0 0) (by have := b.1; omega)]
theorem ordM_e {τ : Hp} {N pn : Nat} {P : Nat → Nat} {C : Cp} (r : RM τ C) (bc : BC C) (h : PadM τ pn P) (hN : 60 < N) : t_X7_faultOfOrder N τ = some (oF P (C 0 0) pn pn 0 0) := by
  have hp := h.2.1
  have hb := bc.1
  obtain ⟨n, hn⟩ : ∃ n, n = C 0 0 := ⟨_, rfl⟩
  have key : ∃ q, t_X7_faultOfOrder N τ = some q ∧ q = oF P n pn pn 0 0 := by
    unfold t_X7_faultOfOrder t_X7_faultOfOrder_4
    refine li3 _ (fun i v1 v2 s => v2 = nI i ∧ s = τ ∧ ∃ b, v1 = nI b ∧ GI P n i b ∧ oF P n pn (pn - i) i b = oF P n pn pn 0 0) _ pn ?_ ?_ N 0 0 τ (by omega) ⟨rfl, rfl, 0, rfl, GI_0 P n, rfl⟩
    · intro i v1 v2 s hi ⟨a2, a3, b, a4, a5, a6⟩
      subst a2; subst a3; subst a4
      have hx := (h.2.2 i (by omega)).2
      have u : oF P n pn (pn - i) i b = if n ≤ i then nI i else if dgt n (P i) = true then (if b.testBit (P i - 48) = true then nI i else oF P n pn (pn - (i + 1)) (i + 1) (b ||| 2 ^ (P i - 48))) else nI i := by
        rw [show pn - i = (pn - (i + 1)) + 1 by omega]; rfl
      rw [a6] at u
      have fr : ∀ k : Int32 → Int32 → Hp → Option Int32, (if (s 0 16) ≤ (nI i) then if (s 0 0) ≤ (s 0 16) then some (-6) else some (s 0 16) else gi (nI i) 60 (bnd ((s 12 (nI i).toNatClampNeg) - 48) (fun x1 : Int32 => Option.bind (t_X7_isEgg x1 s) (fun r2 : Int32 => if r2 = 0 then some (nI i) else if (((nI b) >>> (x1 &&& 31)) &&& 1) = 1 then some (nI i) else bnd ((nI b) ||| (1 <<< (x1 &&& 31))) (fun x3 : Int32 => bnd ((nI i) + 1) (fun x4 : Int32 => k x3 x4 s)))))) = if dgt n (P i) = true then (if b.testBit (P i - 48) = true then some (nI i) else k (nI (b ||| 2 ^ (P i - 48))) (nI (i + 1)) s) else some (nI i) := by
        intro k
        rw [h.1, if_neg (nI_ge hi (by omega)), gi_in (by omega) (by omega), nI_clamp (by omega), (h.2.2 i (by omega)).1, bnd_e, isEggS r bc hx, bind_s, bI_0, ← hn]
        by_cases c2 : dgt n (P i) = true
        · have d := dgt_i c2
          rw [if_pos c2, if_pos c2, show (48 : Int32) = nI 48 from rfl, pk_sub d.1, has7 b a5.2.1 _ (by omega), if_e1, bnd_e, bnd_e, (or_bit b a5.2.1 (P i - 48) (by omega)).1, nI_1]
        · rw [if_neg c2, if_neg c2]
      by_cases c : n ≤ i
      · rw [if_pos c] at u
        have e : i = n := by have := a5.1; omega
        subst e
        refine Or.inl ⟨nI i, u.symm, fun k => (fr k).trans ?_⟩
        by_cases c2 : dgt i (P i) = true
        · rw [if_pos c2, if_pos (GI_full a5 c2)]
        · rw [if_neg c2]
      · rw [if_neg c] at u
        by_cases c2 : dgt n (P i) = true
        · have d := dgt_i c2
          rw [if_pos c2] at u
          by_cases c3 : b.testBit (P i - 48) = true
          · rw [if_pos c3] at u
            exact Or.inl ⟨nI i, u.symm, fun k => (fr k).trans (by rw [if_pos c2, if_pos c3])⟩
          · rw [if_neg c3] at u
            exact Or.inr ⟨nI (b ||| 2 ^ (P i - 48)), nI (i + 1), s, ⟨rfl, rfl, _, rfl, GI_s a5 (by omega) (by omega) c2 c3, u.symm⟩, fun k => (fr k).trans (by rw [if_pos c2, if_neg c3])⟩
        · rw [if_neg c2] at u
          exact Or.inl ⟨nI i, u.symm, fun k => (fr k).trans (by rw [if_neg c2])⟩
    · intro v1 v2 s ⟨a2, a3, b, a4, a5, a6⟩
      subst a2; subst a3; subst a4
      rw [Nat.sub_self] at a6
      refine ⟨oF P n pn 0 pn b, a6, fun k => ?_⟩
      show (if s 0 16 ≤ nI pn then (if s 0 0 ≤ s 0 16 then some (-6) else some (s 0 16)) else _) = _
      rw [h.1, if_pos (nI_le (Nat.le_refl _) (by omega)), r.1, ← hn, le_nI (by omega) (by omega)]
      show _ = some (if n ≤ pn then (-6) else nI pn)
      split <;> rfl
  obtain ⟨q, q1, q2⟩ := key
  rw [q1, q2, hn]
/-! all whole -/
def alw (C : Cp) : Nat → Bool
  | 0 => true
  | i + 1 => alw C i && whl C i
theorem cnt_alw (C : Cp) : ∀ n, (cnt (whl C) n = n) = (alw C n = true)
  | 0 => by simp [cnt, alw]
  | n + 1 => by
    have ih := cnt_alw C n
    have h := cnt_le (whl C) n
    apply propext
    unfold cnt alw
    rw [Bool.and_eq_true, ← ih]
    by_cases hw : whl C n = true
    · rw [if_pos hw]; constructor
      · intro z; exact ⟨by omega, hw⟩
      · intro z; omega
    · rw [if_neg hw]; constructor
      · intro z; omega
      · intro z; exact absurd z.2 hw
theorem alwX_e {σ : Hp} {N o : Nat} {C : Cp} (r : RC σ o C) (b : BC C) (hN : 7 < N) : t_X0_areAllWhole N o σ = some (bI (alw C (C 0 0))) := by
  have hb := b.1
  have hc := cnt_le (whl C) (C 0 0)
  unfold t_X0_areAllWhole
  rw [cntWX_e r b hN, bind_s, r.1, eq_nI (by omega) (by omega)]
  have := cnt_alw C (C 0 0)
  simp only [this]
  cases alw C (C 0 0) <;> rfl
theorem alwM_e {τ : Hp} {N : Nat} {C : Cp} (r : RM τ C) (b : BC C) (hN : 7 < N) : t_X7_areAllWhole N τ = some (bI (alw C (C 0 0))) := by
  have hb := b.1
  unfold t_X7_areAllWhole t_X7_areAllWhole_4
  refine lr3 _ (fun i => bI (alw C i)) (fun i => nI i) (fun _ => τ) (C 0 0) _ ?_ ?_ N (by omega)
  · intro i hi k
    have hi7 : i < 7 := by omega
    obtain ⟨d0, d1, d2, d3, d4⟩ := r.2.2.2 i hi7
    obtain ⟨k0, k1, k2, k3, k4⟩ := b.2.2.2.2.2 i hi7
    unfold t_X7_areAllWhole_29 t_X7_areAllWhole_30
    rw [r.1, if_neg (nI_ge hi (by omega)), gi_in hi7 (by omega), nI_clamp (by omega), d4, bI_0, bnd_e, bnd_e, nI_1, show (0 : Int32) = nI 0 from rfl, eq_nI (by omega) (by omega)]
    show _ = k (bI (alw C i && (C 2 (i * 5 + 4) == 0))) _ _
    cases alw C i
    · rw [if_neg (by decide)]; rfl
    · rw [if_pos rfl, Bool.true_and]
      by_cases h : C 2 (i * 5 + 4) = 0
      · rw [if_pos h, h]; rfl
      · rw [if_neg h, show (C 2 (i * 5 + 4) == 0) = false by simp [h]]; rfl
  · intro k
    show (if τ 0 0 ≤ nI (C 0 0) then _ else _) = _
    rw [r.1, if_pos (nI_le (Nat.le_refl _) (by omega)), zb_I]
/-! one row filled from its beginning -/
def SA (σ : Hp) (o : Nat) (f : Nat → Int32) (i : Nat) : Hp := fun a j => if a = o ∧ j < i then f j else σ a j
theorem SA_s {σ : Hp} {o i : Nat} {f : Nat → Int32} : hset (SA σ o f i) o i (f i) = SA σ o f (i + 1) := by
  funext a j
  rw [hs_ok]; unfold SA
  by_cases h : a = o ∧ j = i
  · rw [if_pos h, if_pos ⟨h.1, by omega⟩, h.2]
  · rw [if_neg h]
    by_cases h2 : a = o ∧ j < i
    · rw [if_pos h2, if_pos ⟨h2.1, by omega⟩]
    · rw [if_neg h2, if_neg (fun z => h2 ⟨z.1, by have : ¬ j = i := fun w => h ⟨z.1, w⟩; omega⟩)]
theorem SA_0 {σ : Hp} {o : Nat} {f : Nat → Int32} : SA σ o f 0 = σ := by funext a j; unfold SA; rw [if_neg (fun z => by omega)]
theorem SA_o {σ : Hp} {o i a : Nat} {f : Nat → Int32} (h : a ≠ o) : SA σ o f i a = σ a := by funext j; unfold SA; rw [if_neg (fun z => h z.1)]
theorem SA_in {σ : Hp} {o i j : Nat} {f : Nat → Int32} (h : j < i) : SA σ o f i o j = f j := if_pos ⟨rfl, h⟩
theorem SA_out {σ : Hp} {o i j : Nat} {f : Nat → Int32} (h : i ≤ j) : SA σ o f i o j = σ o j := if_neg (fun z => by omega)
def Cord (C : Cp) (P : Nat → Nat) (n : Nat) : Cp := fun a b => if a = 1 ∧ b < n then P b - 48 else C a b
theorem k_order {N : Nat} (hN : 60 < N) {σ τ : Hp} (hR : Rl σ τ) : ∃ r : Int32, ∃ σ1 : Hp, ∃ τ1 : Hp, t_X6_order N σ = some (r, σ1) ∧ t_X7_order N τ = some (r, τ1) ∧ Rl σ1 τ1 := by
  obtain ⟨C, H, pn, P, h1, h2, h3, h4, h5, h6, h7, h8, h9⟩ := id hR
  have hb := h3.1
  have px := RP_X h7
  have pm := RP_M h7
  obtain ⟨n, hn⟩ : ∃ n, C 0 0 = n := ⟨_, rfl⟩
  have e1 := ordX_e (n := C 0 0) px hb.2 hN
  have e2 := ordM_e h2 h3 pm hN
  unfold t_X6_order t_X7_order
  rw [h1.1, e1, e2, bind_s, bind_s, alwX_e h1 h3 (by omega), alwM_e h2 h3 (by omega), bind_s, bind_s, bI_0, bI_0]
  rcases (oF_v (P := P) (n := C 0 0) px.2.1 pn 0 0 (by omega)).symm with ⟨k, hk, ho⟩ | ho
  · rw [ho, if_neg (m6_ne (by omega)), if_neg (nI_pos (by omega))]
    exact ⟨_, _, _, rfl, rfl, hR⟩
  obtain ⟨o1, b', g⟩ := oF_ok hb.2 px.2.1 pn 0 0 (GI_0 P _) (by omega) ho
  rw [ho, if_pos (rfl : (-6 : Int32) = -6), if_pos (show (-6 : Int32) < 0 by decide)]
  cases ha : alw C (C 0 0)
  · rw [if_neg (show ¬ false = true by decide), if_neg (show ¬ false = true by decide)]; exact ⟨_, _, _, rfl, rfl, hR⟩
  rw [if_pos (rfl : true = true), if_pos (rfl : true = true)]
  obtain ⟨g1, g2, g3, g4, g5⟩ := g
  have dd : ∀ i, i < C 0 0 → 48 ≤ P i ∧ P i < 48 + C 0 0 := fun i hi => dgt_i (g3 i hi)
  have lx : t_X6_order_43 N N 0 σ = some (1, hset (SA σ 3 (fun i => nI (P i - 48)) (C 0 0)) 31 0 0) := by
    unfold t_X6_order_43
    have := lr2 (R := Int32 × Hp) (fun (k43 : Int32 → Hp → Option (Int32 × Hp)) (v1 : Int32) (σ : Hp) => if (σ 2 0) ≤ v1 then bnd (hset σ 31 0 0) (fun σ1 : Hp => some (1, σ1)) else Option.bind (t_X3_sign v1 σ) (fun r2 : Int32 => Option.bind (t_X6_put 3 7 v1 (r2 - 48) σ) (fun σ3 : Hp => bnd (v1 + 1) (fun x4 : Int32 => k43 x4 σ3)))) (fun i => nI i) (fun i => SA σ 3 (fun i => nI (P i - 48)) i) (C 0 0) (some (1, hset (SA σ 3 (fun i => nI (P i - 48)) (C 0 0)) 31 0 0)) ?_ ?_ N (by omega)
    · rw [SA_0] at this; exact this
    · intro i hi k
      have px' : PadX (SA σ 3 (fun i => nI (P i - 48)) i) pn P := by
        unfold PadX; rw [SA_o (by decide), SA_o (by decide)]; exact px
      show (if (SA σ 3 (fun i => nI (P i - 48)) i) 2 0 ≤ nI i then _ else _) = _
      rw [SA_o (by decide), h1.1, if_neg (nI_ge hi (by omega)), sign_e px' (by omega), bind_s, show (48 : Int32) = nI 48 from rfl, pk_sub (dd i hi).1, put_in (by omega) (by omega), bind_s, bnd_e, nI_1]
      exact congrArg (k (nI (i + 1))) (SA_s (f := fun i => nI (P i - 48)))
    · intro k
      show (if (SA σ 3 (fun i => nI (P i - 48)) (C 0 0)) 2 0 ≤ nI (C 0 0) then _ else _) = _
      rw [SA_o (by decide), h1.1, if_pos (nI_le (Nat.le_refl _) (by omega)), bnd_e]
  have lm : t_X7_order_22 N N 0 τ = some (1, hset (SA τ 6 (fun i => nI (P i - 48)) (C 0 0)) 0 16 0) := by
    unfold t_X7_order_22
    have := lr2 (R := Int32 × Hp) (fun (k22 : Int32 → Hp → Option (Int32 × Hp)) (v1 : Int32) (σ : Hp) => if (σ 0 0) ≤ v1 then bnd (hset σ 0 16 0) (fun σ1 : Hp => some (1, σ1)) else gi v1 60 (gi v1 7 (bnd (hset σ 6 v1.toNatClampNeg ((σ 12 v1.toNatClampNeg) - 48)) (fun σ2 : Hp => bnd (v1 + 1) (fun x3 : Int32 => k22 x3 σ2))))) (fun i => nI i) (fun i => SA τ 6 (fun i => nI (P i - 48)) i) (C 0 0) (some (1, hset (SA τ 6 (fun i => nI (P i - 48)) (C 0 0)) 0 16 0)) ?_ ?_ N (by omega)
    · rw [SA_0] at this; exact this
    · intro i hi k
      show (if (SA τ 6 (fun i => nI (P i - 48)) i) 0 0 ≤ nI i then _ else _) = _
      rw [SA_o (by decide), h2.1, if_neg (nI_ge hi (by omega)), gi_in (by omega) (by omega), gi_in (by omega) (by omega), nI_clamp (by omega), SA_o (by decide), (pm.2.2 i (by omega)).1, show (48 : Int32) = nI 48 from rfl, pk_sub (dd i hi).1, bnd_e, bnd_e, nI_1]
      exact congrArg (k (nI (i + 1))) (SA_s (f := fun i => nI (P i - 48)))
    · intro k
      show (if (SA τ 6 (fun i => nI (P i - 48)) (C 0 0)) 0 0 ≤ nI (C 0 0) then _ else _) = _
      rw [SA_o (by decide), h2.1, if_pos (nI_le (Nat.le_refl _) (by omega)), bnd_e]
  rw [lx, lm]
  have cz : ∀ a b, a ≠ 1 → Cord C P (C 0 0) a b = C a b := fun a b h => if_neg (fun z => h z.1)
  have ci : ∀ b, b < C 0 0 → Cord C P (C 0 0) 1 b = P b - 48 := fun b h => if_pos ⟨rfl, h⟩
  have co : ∀ b, ¬ b < C 0 0 → Cord C P (C 0 0) 1 b = C 1 b := fun b h => if_neg (fun z => h z.2)
  refine ⟨1, _, _, rfl, rfl, Cord C P (C 0 0), H, 0, P, ⟨?_, ?_, fun p hp => ?_, fun j hj => ?_⟩, ⟨?_, ?_, fun p hp => ?_, fun e he => ?_⟩, ⟨?_, ?_, fun p hp => ?_, fun p q hp hq e => ?_, fun p hp => ?_, fun e he => ?_⟩, ?_, ?_, ?_, ?_, ?_, ?_⟩
  · rw [hs_o (by decide), SA_o (by decide)]; exact h1.1
  · rw [hs_o (by decide), SA_o (by decide)]; exact h1.2.1
  · rw [hs_o (by decide)]
    by_cases hc : p < C 0 0
    · rw [SA_in hc, ci p hc]
    · rw [SA_out (by omega), co p hc]; exact h1.2.2.1 p hp
  · rw [hs_o (by decide), SA_o (by decide)]; exact h1.2.2.2 j hj
  · rw [hs_k (by decide), SA_o (by decide)]; exact h2.1
  · rw [hs_k (by decide), SA_o (by decide)]; exact h2.2.1
  · rw [hs_o (by decide)]
    by_cases hc : p < C 0 0
    · rw [SA_in hc, ci p hc]
    · rw [SA_out (by omega), co p hc]; exact h2.2.2.1 p hp
  · rw [hs_o (by decide), SA_o (by decide), hs_o (by decide), SA_o (by decide), hs_o (by decide), SA_o (by decide), hs_o (by decide), SA_o (by decide), hs_o (by decide), SA_o (by decide)]; exact h2.2.2.2 e he
  · exact hb
  · exact h3.2.1
  · have hp' : p < C 0 0 := hp
    rw [ci p hp']; have := dd p hp'; show P p - 48 < C 0 0; omega
  · have hp' : p < C 0 0 := hp
    have hq' : q < C 0 0 := hq
    rw [ci p hp', ci q hq'] at e
    have := dd p hp'; have := dd q hq'
    exact g4 p q hp' hq' (by omega)
  · by_cases hc : p < C 0 0
    · rw [ci p hc]; have := dd p hc; omega
    · rw [co p hc]; exact h3.2.2.2.2.1 p hp
  · exact h3.2.2.2.2.2 e he
  · exact RH_f h4 (fun a _ _ => by rw [hs_o (by omega), SA_o (by omega)])
  · exact RN_f h5 (fun a _ _ => by rw [hs_o (by omega), SA_o (by omega)]) (by rw [hs_k (by decide), SA_o (by decide)]) (by rw [hs_k (by decide), SA_o (by decide)])
  · exact h6
  · refine ⟨by rw [hs_eq]; rfl, by rw [hs_eq]; rfl, by omega, fun i hi => ?_⟩
    rw [hs_o (by decide), SA_o (by decide), hs_o (by decide), SA_o (by decide)]; exact h7.2.2.2 i hi
  · exact RI_fr h8 (fun a _ _ => by rw [hs_o (by omega), SA_o (by omega)]) (by rw [hs_o (by decide), SA_o (by decide)]) (by rw [hs_o (by decide), SA_o (by decide)])
  · exact RI_fr h9 (fun a _ _ => by rw [hs_o (by omega), SA_o (by omega)]) (by rw [hs_o (by decide), SA_o (by decide)]) (by rw [hs_o (by decide), SA_o (by decide)])
