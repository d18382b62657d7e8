/-! the model: what is counted, a row's clues -/
def hQ : List (List Nat) → Nat → Nat → Nat
  | [], _, _ => 0
  | l :: Q, e, o => (if ix l e < ix l o then 1 else 0) + hQ Q e o
theorem hQ_app (e o : Nat) : ∀ Q R, hQ (Q ++ R) e o = hQ Q e o + hQ R e o
  | [], R => (Nat.zero_add _).symm
  | l :: Q, R => by show _ + hQ (Q ++ R) e o = _ + hQ Q e o + _; rw [hQ_app e o Q R]; omega
def Cn (n : Nat) (A : List (List Nat)) (s : Hp) : Prop := s 0 33 = nI A.length ∧ (∀ e q, e < n → q < n → s 22 (7 * e + q) = nI (cQ A q e)) ∧ (∀ e o, e < n → o < n → s 23 (7 * e + o) = nI (hQ A e o)) ∧ ∀ l A', A = l :: A' → ∀ q, q < n → s 21 q = nI (rw7 l q)
def iS (f : Nat → Nat) (t : Hp) (p : Nat) : Nat → Hp
  | 0 => t
  | j + 1 => hset (iS f t p j) 23 (7 * f p + f (p + 1 + j)) (iS f t p j 23 (7 * f p + f (p + 1 + j)) + 1)
theorem iS_o {f : Nat → Nat} {t : Hp} {p a : Nat} (h : a ≠ 23) : ∀ j, iS f t p j a = t a
  | 0 => rfl
  | j + 1 => by show hset _ _ _ _ a = _; rw [hs_o h]; exact iS_o h j
theorem iS_v {f g : Nat → Nat} {t : Hp} {n p : Nat} (hn : n ≤ 7) (pr : PR n f g) (hp : p < n) : ∀ j, p + 1 + j ≤ n → ∀ e o, e < n → o < n → iS f t p j 23 (7 * e + o) = t 23 (7 * e + o) + nI (if g e = p ∧ p < g o ∧ g o < p + 1 + j then 1 else 0)
  | 0, _, e, o, _, _ => by
    rw [if_neg (fun z => by omega), show nI 0 = (0 : Int32) from rfl, Int32.add_zero]; rfl
  | j + 1, hj, e, o, he, ho => by
    have ih := iS_v (t := t) hn pr hp j (by omega) e o he ho
    obtain ⟨f1, g1⟩ := pr.1 p hp
    obtain ⟨f2, g2⟩ := pr.1 (p + 1 + j) (by omega)
    show hset (iS f t p j) 23 (7 * f p + f (p + 1 + j)) (iS f t p j 23 (7 * f p + f (p + 1 + j)) + 1) 23 (7 * e + o) = _
    by_cases c : e = f p ∧ o = f (p + 1 + j)
    · rw [c.1, c.2, hs_eq]
      rw [c.1, c.2] at ih
      rw [ih, g1, g2, if_neg (fun z => by omega), if_pos ⟨rfl, by omega, by omega⟩, Int32.add_assoc, nI_1]
    · rw [hs_k (by omega), ih]
      by_cases z : g e = p ∧ p < g o ∧ g o < p + 1 + j
      · rw [if_pos z, if_pos ⟨z.1, z.2.1, by omega⟩]
      · rw [if_neg z, if_neg]
        intro y
        apply z
        refine ⟨y.1, y.2.1, ?_⟩
        have : g o ≠ p + 1 + j := fun w => c ⟨by rw [← y.1, (pr.2 e he).2], by rw [← w, (pr.2 o ho).2]⟩
        omega
theorem inner_e {N n p : Nat} {f g : Nat → Nat} {t : Hp} (hn : n ≤ 7) (hN : 7 < N) (pr : PR n f g) (hp : p < n) (h0 : t 0 0 = nI n) (h16 : RS t n f) (k2 : Int32 → Hp → Option Hp) : t_X7_countFit_62 N k2 N (nI p) (nI (p + 1)) t = k2 (nI (p + 1)) (iS f t p (n - (p + 1))) := by
  unfold t_X7_countFit_62
  have := lr3 (R := Hp) (fun (k62 : Int32 → Int32 → Hp → Option Hp) (v1 : Int32) (v2 : Int32) (σ : Hp) => if (σ 0 0) ≤ v2 then bnd (v1 + 1) (fun x1 : Int32 => k2 x1 σ) else gi v1 7 (gi v2 7 (gi ((7 * (σ 16 v1.toNatClampNeg)) + (σ 16 v2.toNatClampNeg)) 49 (gi ((7 * (σ 16 v1.toNatClampNeg)) + (σ 16 v2.toNatClampNeg)) 49 (bnd (hset σ 23 ((7 * (σ 16 v1.toNatClampNeg)) + (σ 16 v2.toNatClampNeg)).toNatClampNeg ((σ 23 ((7 * (σ 16 v1.toNatClampNeg)) + (σ 16 v2.toNatClampNeg)).toNatClampNeg) + 1)) (fun σ2 : Hp => bnd (v2 + 1) (fun x3 : Int32 => k62 v1 x3 σ2))))))) (fun _ => nI p) (fun j => nI (p + 1 + j)) (fun j => iS f t p j) (n - (p + 1)) ?_ ?_ ?_ N (by omega)
  · exact this
  · intro j hj k
    have hq : p + 1 + j < n := by omega
    have f1 := (pr.1 p hp).1
    have f2 := (pr.1 _ hq).1
    have e1 : iS f t p j 16 p = nI (f p) := by rw [iS_o (by decide)]; exact h16 p hp
    have e2 : iS f t p j 16 (p + 1 + j) = nI (f (p + 1 + j)) := by rw [iS_o (by decide)]; exact h16 _ hq
    show (if iS f t p j 0 0 ≤ nI (p + 1 + j) then _ else _) = _
    rw [iS_o (by decide), h0, if_neg (nI_ge hq (by omega)), gi_in (by omega) (by omega), gi_in (by omega) (by omega), nI_clamp (by omega), nI_clamp (by omega), e1, e2, show (7 : Int32) = nI 7 from rfl, pk_mul, nI_add, gi_in (by omega) (by omega), gi_in (by omega) (by omega), nI_clamp (by omega), bnd_e, bnd_e, nI_1]
    rfl
  · intro k
    show (if iS f t p (n - (p + 1)) 0 0 ≤ nI (p + 1 + (n - (p + 1))) then _ else _) = _
    rw [iS_o (by decide), h0, if_pos (nI_le (by omega) (by omega)), bnd_e, nI_1]
theorem countFit_e {N n : Nat} {l : List Nat} {A : List (List Nat)} {s : Hp} (hn : n ≤ 7) (hN : 7 < N) (pr : PR n (rw7 l) (ix l)) (h0 : s 0 0 = nI n) (h16 : RS s n (rw7 l)) (hA : A.length < 2 ^ 31) (c : Cn n A s) : ∃ s', t_X7_countFit N s = some s' ∧ Cn n (A ++ [l]) s' ∧ (∀ a, a ≠ 0 → a ≠ 21 → a ≠ 22 → a ≠ 23 → s' a = s a) ∧ ∀ j, j ≠ 33 → s' 0 j = s 0 j := by
  obtain ⟨c1, c2, c3, c4⟩ := c
  unfold t_X7_countFit t_X7_countFit_2
  refine li2 _ (fun p (v : Int32) (t : Hp) => v = nI p ∧ (∀ a, a ≠ 21 → a ≠ 22 → a ≠ 23 → t a = s a) ∧ (∀ q, q < n → t 21 q = if A.length = 0 ∧ q < p then nI (rw7 l q) else s 21 q) ∧ (∀ e q, e < n → q < n → t 22 (7 * e + q) = s 22 (7 * e + q) + nI (if q < p ∧ rw7 l q = e then 1 else 0)) ∧ ∀ e o, e < n → o < n → t 23 (7 * e + o) = s 23 (7 * e + o) + nI (if ix l e < ix l o ∧ ix l e < p then 1 else 0)) (fun (s' : Hp) => Cn n (A ++ [l]) s' ∧ (∀ a, a ≠ 0 → a ≠ 21 → a ≠ 22 → a ≠ 23 → s' a = s a) ∧ ∀ j, j ≠ 33 → s' 0 j = s 0 j) n ?_ ?_ N 0 s (by omega) ⟨rfl, fun _ _ _ _ => rfl, fun q _ => by rw [if_neg (fun z => by omega)], fun e q _ _ => by rw [if_neg (fun z => by omega), show nI 0 = (0 : Int32) from rfl, Int32.add_zero], fun e o _ _ => by rw [if_neg (fun z => by omega), show nI 0 = (0 : Int32) from rfl, Int32.add_zero]⟩
  · intro p v t hp ⟨a1, a2, a3, a4, a5⟩
    subst a1
    obtain ⟨f1, g1⟩ := pr.1 p hp
    have t0 : t 0 0 = nI n := by rw [a2 0 (by decide) (by decide) (by decide)]; exact h0
    have t16 : RS t n (rw7 l) := fun q hq => by rw [a2 16 (by decide) (by decide) (by decide)]; exact h16 q hq
    have t33 : t 0 33 = nI A.length := by rw [a2 0 (by decide) (by decide) (by decide)]; exact c1
    obtain ⟨y, hy⟩ : ∃ y : Int32, y = if A.length = 0 then nI (rw7 l p) else t 21 p := ⟨_, rfl⟩
    obtain ⟨u, hu⟩ : ∃ u : Hp, u = hset (hset t 21 p y) 22 (7 * rw7 l p + p) (t 22 (7 * rw7 l p + p) + 1) := ⟨_, rfl⟩
    have u0 : u 0 0 = nI n := by rw [hu, hs_o (by decide), hs_o (by decide)]; exact t0
    have u16 : RS u n (rw7 l) := fun q hq => by rw [hu, hs_o (by decide), hs_o (by decide)]; exact t16 q hq
    have e37 : ∀ k, t_X7_countFit_37 N k (nI p) (nI p) y t = k (nI (p + 1)) (iS (rw7 l) u p (n - (p + 1))) := fun k => by
      unfold t_X7_countFit_37
      rw [gi_in (by omega) (by omega), nI_clamp (by omega), bnd_e, gi_in (by omega) (by omega), hs_o (by decide), t16 p hp, show (7 : Int32) = nI 7 from rfl, pk_mul, nI_add, gi_in (by omega) (by omega), gi_in (by omega) (by omega), nI_clamp (by omega), bnd_e, bnd_e, nI_1, hs_o (by decide), ← hu]
      exact inner_e hn hN pr hp u0 u16 k
    refine Or.inr ⟨nI (p + 1), iS (rw7 l) u p (n - (p + 1)), ⟨rfl, fun a h1 h2 h3 => ?_, fun q hq => ?_, fun e q he hq => ?_, fun e o he ho => ?_⟩, fun k => ?_⟩
    · rw [iS_o h3, hu, hs_o h2, hs_o h1]; exact a2 a h1 h2 h3
    · rw [iS_o (by decide), hu, hs_o (by decide)]
      by_cases cq : q = p
      · subst cq
        rw [hs_eq, hy]
        by_cases z : A.length = 0
        · rw [if_pos z, if_pos ⟨z, by omega⟩]
        · rw [if_neg z, if_neg (fun w => z w.1), a3 q hq, if_neg (fun w => z w.1)]
      · rw [hs_k cq, a3 q hq]
        by_cases z : A.length = 0 ∧ q < p
        · rw [if_pos z, if_pos ⟨z.1, by omega⟩]
        · rw [if_neg z, if_neg (fun w => z ⟨w.1, by omega⟩)]
    · rw [iS_o (by decide), hu]
      by_cases cq : e = rw7 l p ∧ q = p
      · rw [cq.1, cq.2, hs_eq, a4 _ p f1 hp, if_neg (fun z => by omega), if_pos ⟨by omega, rfl⟩, Int32.add_assoc, nI_1]
      · rw [hs_k (by omega), hs_o (by decide), a4 e q he hq]
        by_cases z : q < p ∧ rw7 l q = e
        · rw [if_pos z, if_pos ⟨by omega, z.2⟩]
        · rw [if_neg z, if_neg]
          intro w
          apply z
          refine ⟨?_, w.2⟩
          have : q ≠ p := fun y => cq ⟨by rw [← y]; exact w.2.symm, y⟩
          omega
    · rw [iS_v hn pr hp _ (by omega) e o he ho, hu, hs_o (by decide), hs_o (by decide), a5 e o he ho, Int32.add_assoc, nI_add]
      have go := (pr.2 o ho).1
      by_cases z1 : ix l e < ix l o ∧ ix l e < p
      · rw [if_pos z1, if_neg (fun z => by omega), if_pos ⟨z1.1, by omega⟩]
      · rw [if_neg z1]
        by_cases z2 : ix l e = p ∧ p < ix l o ∧ ix l o < p + 1 + (n - (p + 1))
        · rw [if_pos z2, if_pos ⟨by omega, by omega⟩]
        · rw [if_neg z2, if_neg (fun z => by omega)]
    · show (if t 0 0 ≤ nI p then _ else if t 0 33 = 0 then _ else _) = _
      rw [t0, if_neg (nI_ge hp (by omega)), t33, show (0 : Int32) = nI 0 from rfl, eq_nI hA (by omega), gi_in (by omega) (by omega), gi_in (by omega) (by omega), nI_clamp (by omega), t16 p hp, ← e37 k, hy]
      split <;> rfl
  · intro v t ⟨a1, a2, a3, a4, a5⟩
    subst a1
    refine ⟨hset t 0 33 (t 0 33 + 1), ⟨⟨?_, fun e q he hq => ?_, fun e o he ho => ?_, fun l2 A2 hl q hq => ?_⟩, fun a h0 h1 h2 h3 => by rw [hs_o h0]; exact a2 a h1 h2 h3, fun j hj => by rw [hs_k hj, a2 0 (by decide) (by decide) (by decide)]⟩, fun k => ?_⟩
    · rw [hs_eq, a2 0 (by decide) (by decide) (by decide), c1, nI_1, List.length_append]; rfl
    · rw [hs_o (by decide), a4 e q he hq, c2 e q he hq, nI_add, cQ_app]
      show _ = nI (cQ A q e + ((if rw7 l q = e then 1 else 0) + 0))
      by_cases z : rw7 l q = e
      · rw [if_pos z, if_pos ⟨hq, z⟩]
      · rw [if_neg z, if_neg (fun w => z w.2)]
    · rw [hs_o (by decide), a5 e o he ho, c3 e o he ho, nI_add, hQ_app]
      have ge := (pr.2 e he).1
      show _ = nI (hQ A e o + ((if ix l e < ix l o then 1 else 0) + 0))
      by_cases z : ix l e < ix l o
      · rw [if_pos z, if_pos ⟨z, ge⟩]
      · rw [if_neg z, if_neg (fun w => z w.1)]
    · rw [hs_o (by decide), a3 q hq]
      cases A with
      | nil =>
        have hl' : l :: [] = l2 :: A2 := hl
        rw [if_pos ⟨rfl, hq⟩, (List.cons.inj hl').1]
      | cons x A =>
        have hl' : x :: (A ++ [l]) = l2 :: A2 := hl
        rw [if_neg (fun z => absurd z.1 (Nat.succ_ne_zero _)), ← (List.cons.inj hl').1]
        exact c4 x A rfl q hq
    · show (if t 0 0 ≤ nI n then _ else _) = _
      rw [a2 0 (by decide) (by decide) (by decide), h0, if_pos (nI_le (Nat.le_refl _) (by omega)), bnd_e]
/-! clues -/
theorem e168_0 {N i : Nat} {b : Bool} {s : Hp} (k : Int32 → Int32 → Hp → Option (Int32 × Hp)) : t_X7_fitsClues_168 N k (bI b) (nI i) 0 s = k (bI (b && false)) (nI (i + 1)) s := by
  unfold t_X7_fitsClues_168 t_X7_fitsClues_183 t_X7_fitsClues_184
  rw [bnd_e, nI_1, if_pos rfl]
  cases b <;> rfl
theorem e168_1 {N i : Nat} {b : Bool} {s : Hp} (k : Int32 → Int32 → Hp → Option (Int32 × Hp)) : t_X7_fitsClues_168 N k (bI b) (nI i) 1 s = k (bI (b && true)) (nI (i + 1)) s := by
  unfold t_X7_fitsClues_168 t_X7_fitsClues_183 t_X7_fitsClues_184
  rw [bnd_e, bnd_e, nI_1]
  cases b <;> rfl
theorem fitsClues_e {N n : Nat} {f g : Nat → Nat} {s : Hp} {H : Cp} (hn : n ≤ 7) (hN : 20 < N) (pr : PR n f g) (h0 : s 0 0 = nI n) (h16 : RS s n f) (hb : BH n H) (h11 : s 0 11 = nI (H 0 0)) (hc : ∀ i, i < 12 → s 7 i = nI (H 1 i) ∧ s 8 i = nI (H 2 i) ∧ s 9 i = nI (H 3 i)) : ∃ s', t_X7_fitsClues N s = some (bI (cAll H g (H 0 0)), s') ∧ ∀ a, a ≠ 20 → s' a = s a := by
  have hcl := hb.1
  have key : ∃ z : Int32 × Hp, t_X7_fitsClues N s = some z ∧ (z.1 = bI (cAll H g (H 0 0)) ∧ ∀ a, a ≠ 20 → z.2 a = s a) := by
    unfold t_X7_fitsClues t_X7_fitsClues_2
    refine li2 _ (fun p (v : Int32) (t : Hp) => v = nI p ∧ (∀ q, q < p → t 20 (f q) = nI q) ∧ ∀ a, a ≠ 20 → t a = s a) _ n ?_ ?_ N 0 s (by omega) ⟨rfl, fun q hq => absurd hq (Nat.not_lt_zero q), fun _ _ => rfl⟩
    · intro p v t hp ⟨a1, a2, a3⟩
      subst a1
      obtain ⟨f1, g1⟩ := pr.1 p hp
      refine Or.inr ⟨nI (p + 1), hset t 20 (f p) (nI p), ⟨rfl, fun q hq => ?_, fun a ha => by rw [hs_o ha]; exact a3 a ha⟩, fun k => ?_⟩
      · by_cases c : q = p
        · subst c; rw [hs_eq]
        · have : f q ≠ f p := fun z => c (by rw [← (pr.1 q (by omega)).2, ← g1, z])
          rw [hs_k this]; exact a2 q (by omega)
      · show (if t 0 0 ≤ nI p then _ else _) = _
        rw [a3 0 (by decide), h0, if_neg (nI_ge hp (by omega)), gi_in (by omega) (by omega), nI_clamp (by omega), a3 16 (by decide), h16 p hp, gi_in (by omega) (by omega), nI_clamp (by omega), bnd_e, bnd_e, nI_1]
    · intro v t ⟨a1, a2, a3⟩
      subst a1
      have t20 : ∀ e, e < n → t 20 e = nI (g e) := fun e he => by
        obtain ⟨q1, q2⟩ := pr.2 e he
        have := a2 (g e) q1
        rw [q2] at this; exact this
      have inn : ∃ z : Int32 × Hp, t_X7_fitsClues_32 N N 1 0 t = some z ∧ (z.1 = bI (cAll H g (H 0 0)) ∧ ∀ a, a ≠ 20 → z.2 a = s a) := by
        unfold t_X7_fitsClues_32
        refine li3 _ (fun i (v1 : Int32) (v2 : Int32) (u : Hp) => v1 = bI (cAll H g i) ∧ v2 = nI i ∧ u = t) _ (H 0 0) ?_ ?_ N 1 0 t (by omega) ⟨rfl, rfl, rfl⟩
        · intro i v1 v2 u hi ⟨b1, b2, b3⟩
          subst b1; subst b2; subst b3
          have hi12 : i < 12 := by omega
          obtain ⟨d1, d2, d3⟩ := hc i hi12
          obtain ⟨k1, k2, k3⟩ := hb.2.2.1 i hi12
          obtain ⟨m1, m2, m3⟩ := hb.2.2.2.2.1 i hi
          have ua : cAll H g (i + 1) = (cAll H g i && cOk H g i) := rfl
          have ga := (pr.2 _ m1).1
          have go := (pr.2 _ m2).1
          refine Or.inr ⟨bI (cAll H g (i + 1)), nI (i + 1), u, ⟨rfl, rfl, rfl⟩, fun k => ?_⟩
          show (if u 0 11 ≤ nI i then _ else _) = _
          unfold t_X7_fitsClues_82
          rw [a3 0 (by decide), h11, if_neg (nI_ge hi (by omega))]
          simp only [gi_in (k := i) (n := 12) hi12 (by omega), nI_clamp (n := i) (by omega), a3 7 (by decide), a3 8 (by decide), a3 9 (by decide), d1, d2, d3, gi_in (k := H 2 i) (n := 7) k2 (by omega), gi_in (k := H 3 i) (n := 7) k3 (by omega), nI_clamp (n := H 2 i) (by omega), nI_clamp (n := H 3 i) (by omega), t20 _ m1, t20 _ m2, bnd_e, e168_0, e168_1]
          rcases (show H 1 i = 0 ∨ H 1 i = 1 ∨ H 1 i = 2 ∨ H 1 i = 3 by omega) with w | w | w | w
          · rw [w, if_neg (show ¬ (2 : Int32) ≤ nI 0 by decide), if_pos (show nI 0 = (0 : Int32) from rfl), le_nI (by omega) (by omega), ua, show cOk H g i = decide (g (H 2 i) < g (H 3 i)) by unfold cOk; rw [if_pos w]]
            by_cases z : g (H 2 i) < g (H 3 i)
            · rw [if_neg (by omega), decide_eq_true z]
            · rw [if_pos (by omega), decide_eq_false z]
          · rw [w, if_neg (show ¬ (2 : Int32) ≤ nI 1 by decide), if_neg (show ¬ nI 1 = (0 : Int32) by decide), if_pos (show nI 1 = (1 : Int32) from rfl), nI_1, eq_nI (by omega) (by omega), ua, show cOk H g i = decide (g (H 2 i) + 1 = g (H 3 i)) by unfold cOk; rw [if_neg (show ¬ H 1 i = 0 by omega), if_pos w]]
            by_cases z : g (H 2 i) + 1 = g (H 3 i)
            · rw [if_pos z, decide_eq_true z]
            · rw [if_neg z, decide_eq_false z]
          · rw [w, if_pos (show (2 : Int32) ≤ nI 2 by decide), if_neg (show ¬ nI 2 = (0 : Int32) by decide), if_neg (show ¬ nI 2 = (1 : Int32) by decide), if_pos (show nI 2 = (2 : Int32) from rfl), eq_nI (by omega) (by omega), ua, show cOk H g i = decide (g (H 2 i) = H 3 i) by unfold cOk; rw [if_neg (show ¬ H 1 i = 0 by omega), if_neg (show ¬ H 1 i = 1 by omega), if_pos w]]
            by_cases z : g (H 2 i) = H 3 i
            · rw [if_pos z, decide_eq_true z]
            · rw [if_neg z, decide_eq_false z]
          · rw [w, if_pos (show (2 : Int32) ≤ nI 3 by decide), if_neg (show ¬ nI 3 = (0 : Int32) by decide), if_neg (show ¬ nI 3 = (1 : Int32) by decide), if_neg (show ¬ nI 3 = (2 : Int32) by decide), eq_nI (by omega) (by omega), ua, show cOk H g i = decide (g (H 2 i) ≠ H 3 i) by unfold cOk; rw [if_neg (show ¬ H 1 i = 0 by omega), if_neg (show ¬ H 1 i = 1 by omega), if_neg (show ¬ H 1 i = 2 by omega)]]
            by_cases z : g (H 2 i) = H 3 i
            · rw [if_pos z, decide_eq_false (fun y => y z)]
            · rw [if_neg z, decide_eq_true z]
        · intro v1 v2 u ⟨b1, b2, b3⟩
          subst b1; subst b2; subst b3
          refine ⟨(bI (cAll H g (H 0 0)), u), ⟨rfl, a3⟩, fun k => ?_⟩
          show (if u 0 11 ≤ nI (H 0 0) then zb (bI (cAll H g (H 0 0))) (some (bI (cAll H g (H 0 0)), u)) else _) = _
          rw [a3 0 (by decide), h11, if_pos (nI_le (Nat.le_refl _) (by omega)), zb_I]
      obtain ⟨z, z1, z2⟩ := inn
      refine ⟨z, z2, fun k => ?_⟩
      show (if t 0 0 ≤ nI n then _ else _) = _
      rw [a3 0 (by decide), h0, if_pos (nI_le (Nat.le_refl _) (by omega))]; exact z1
  obtain ⟨⟨z, t⟩, z1, z2, z3⟩ := key
  exact ⟨t, by rw [z1]; exact congrArg (fun x => some (x, t)) z2, z3⟩
