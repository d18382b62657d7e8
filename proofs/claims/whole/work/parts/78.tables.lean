/-! what the class notes down before it looks for orders -/
theorem putAll_e {σ : Hp} {N a n : Nat} {v : Int32} (hn : n < N) (hn2 : n < 2 ^ 31) : ∃ σ', t_X6_putAll N a n v σ = some σ' ∧ (∀ i, i < n → σ' a i = v) ∧ ∀ c, c ≠ a → σ' c = σ c := by
  unfold t_X6_putAll t_X6_putAll_2
  refine li3 _ (fun i (v1 : Int32) (v2 : Int32) (s : Hp) => v1 = v ∧ v2 = nI i ∧ (∀ j, j < i → s a j = v) ∧ ∀ c, c ≠ a → s c = σ c) (fun (s : Hp) => (∀ i, i < n → s a i = v) ∧ ∀ c, c ≠ a → s c = σ c) n ?_ ?_ N v 0 σ hn ⟨rfl, rfl, fun j hj => absurd hj (Nat.not_lt_zero j), fun _ _ => rfl⟩
  · intro i v1 v2 s hi ⟨a1, a2, a3, a4⟩
    subst a1; subst a2
    refine Or.inr ⟨v1, nI (i + 1), hset s a i v1, ⟨rfl, rfl, fun j hj => ?_, fun c hc => by rw [hs_o hc]; exact a4 c hc⟩, fun k => ?_⟩
    · by_cases c : j = i
      · subst c; exact hs_eq
      · rw [hs_k c]; exact a3 j (by omega)
    · show (if Int32.ofNat n ≤ nI i then _ else _) = _
      rw [if_neg (show ¬ Int32.ofNat n ≤ nI i from nI_ge hi hn2), gi_in hi hn2, nI_clamp (by omega), bnd_e, bnd_e, nI_1]
  · intro v1 v2 s ⟨a1, a2, a3, a4⟩
    subst a2
    exact ⟨s, ⟨a3, a4⟩, fun k => if_pos (show Int32.ofNat n ≤ nI n from nI_le (Nat.le_refl _) hn2)⟩
theorem beginF_e {σ : Hp} {N n : Nat} (hN : 60 < N) (h1 : 1 ≤ n) (h7 : n ≤ 7) : ∃ s, t_X1_begin N (nI n) σ = some s ∧ s 38 0 = nI n ∧ s 38 1 = nI 0 ∧ (∀ i, i < 49 → s 41 i = nI 0) ∧ (∀ i, i < 7 → s 42 i = nI 0 ∧ s 43 i = nI 127 ∧ s 44 i = nI 0 ∧ s 45 i = nI 0 ∧ s 46 i = nI 0 ∧ s 47 i = (-1) ∧ s 48 i = (-1)) ∧ ∀ a, (a < 38 ∨ a = 39 ∨ a = 40 ∨ 48 < a) → s a = σ a := by
  have e1 : (if (0 : Int32) < (if (7 : Int32) < nI n then (7 : Int32) else nI n) then (if (7 : Int32) < nI n then (7 : Int32) else nI n) else 0) = nI n := by
    rw [if_neg (show ¬ (7 : Int32) < nI n from nI_nlt (a := 7) (b := n) h7 (by omega)), if_pos (show (0 : Int32) < nI n from nI_lt (a := 0) (b := n) (by omega) (by omega))]
  unfold t_X1_begin
  rw [e1, bnd_e, bnd_e]
  obtain ⟨s1, q1, g1, f1⟩ := putAll_e (σ := hset (hset σ 38 0 (nI n)) 38 1 0) (N := N) (a := 41) (n := 49) (v := 0) (by omega) (by omega)
  obtain ⟨s2, q2, g2, f2⟩ := putAll_e (σ := s1) (N := N) (a := 42) (n := 7) (v := 0) (by omega) (by omega)
  obtain ⟨s3, q3, g3, f3⟩ := putAll_e (σ := s2) (N := N) (a := 43) (n := 7) (v := 1 <<< ((7 : Int32) &&& 31) - 1) (by omega) (by omega)
  obtain ⟨s4, q4, g4, f4⟩ := putAll_e (σ := s3) (N := N) (a := 44) (n := 7) (v := 0) (by omega) (by omega)
  obtain ⟨s5, q5, g5, f5⟩ := putAll_e (σ := s4) (N := N) (a := 45) (n := 7) (v := 0) (by omega) (by omega)
  obtain ⟨s6, q6, g6, f6⟩ := putAll_e (σ := s5) (N := N) (a := 46) (n := 7) (v := 0) (by omega) (by omega)
  obtain ⟨s7, q7, g7, f7⟩ := putAll_e (σ := s6) (N := N) (a := 47) (n := 7) (v := (-1)) (by omega) (by omega)
  obtain ⟨s8, q8, g8, f8⟩ := putAll_e (σ := s7) (N := N) (a := 48) (n := 7) (v := (-1)) (by omega) (by omega)
  rw [q1, bind_s, q2, bind_s, show t_X6_bit 7 = some (1 <<< ((7 : Int32) &&& 31)) from rfl, bind_s, q3, bind_s, q4, bind_s, q5, bind_s, q6, bind_s, q7, bind_s, q8, bind_s]
  refine ⟨s8, rfl, ?_, ?_, fun i hi => ?_, fun i hi => ⟨?_, ?_, ?_, ?_, ?_, ?_, g8 i hi⟩, fun a ha => ?_⟩
  · rw [f8 38 (by decide), f7 38 (by decide), f6 38 (by decide), f5 38 (by decide), f4 38 (by decide), f3 38 (by decide), f2 38 (by decide), f1 38 (by decide), hs_k (by decide), hs_eq]
  · rw [f8 38 (by decide), f7 38 (by decide), f6 38 (by decide), f5 38 (by decide), f4 38 (by decide), f3 38 (by decide), f2 38 (by decide), f1 38 (by decide), hs_eq]; rfl
  · rw [f8 41 (by decide), f7 41 (by decide), f6 41 (by decide), f5 41 (by decide), f4 41 (by decide), f3 41 (by decide), f2 41 (by decide), g1 i hi]; rfl
  · rw [f8 42 (by decide), f7 42 (by decide), f6 42 (by decide), f5 42 (by decide), f4 42 (by decide), f3 42 (by decide), g2 i hi]; rfl
  · rw [f8 43 (by decide), f7 43 (by decide), f6 43 (by decide), f5 43 (by decide), f4 43 (by decide), g3 i hi]; decide
  · rw [f8 44 (by decide), f7 44 (by decide), f6 44 (by decide), f5 44 (by decide), g4 i hi]; rfl
  · rw [f8 45 (by decide), f7 45 (by decide), f6 45 (by decide), g5 i hi]; rfl
  · rw [f8 46 (by decide), f7 46 (by decide), g6 i hi]; rfl
  · rw [f8 47 (by decide), g7 i hi]
  · rw [f8 a (by omega), f7 a (by omega), f6 a (by omega), f5 a (by omega), f4 a (by omega), f3 a (by omega), f2 a (by omega), f1 a (by omega), hs_o (by omega), hs_o (by omega)]
theorem and7 : ∀ a, a < 128 → ∀ o, o < 7 → (nI a &&& ((1 : Int32) <<< (nI o &&& 31))) = nI (a &&& 2 ^ o) ∧ (a &&& 2 ^ o) < 128 ∧ (nI a &&& (((1 : Int32) <<< (nI o &&& 31)) ^^^ (-1))) = nI (a &&& (127 - 2 ^ o)) ∧ (a &&& (127 - 2 ^ o)) < 128 := by decide +kernel
def tAL (H : Cp) (e : Nat) : Nat → Nat
  | 0 => 127
  | i + 1 => if H 1 i = 2 ∧ H 2 i = e then tAL H e i &&& 2 ^ H 3 i else if H 1 i = 3 ∧ H 2 i = e then tAL H e i &&& (127 - 2 ^ H 3 i) else tAL H e i
def tMA (k : Nat) (H : Cp) (e : Nat) : Nat → Nat
  | 0 => 0
  | i + 1 => if H 1 i = k ∧ H 3 i = e then tMA k H e i ||| 2 ^ H 2 i else tMA k H e i
theorem tAL_lt {n : Nat} {H : Cp} (b : BH n H) (e : Nat) : ∀ i, i ≤ 12 → tAL H e i < 128
  | 0, _ => by show 127 < 128; omega
  | i + 1, hi => by
    have ih := tAL_lt b e i (by omega)
    have h3 := (b.2.2.1 i (by omega)).2.2
    have := and7 _ ih _ h3
    unfold tAL
    split
    · exact this.2.1
    · split
      · exact this.2.2.2
      · exact ih
theorem tMA_lt {n : Nat} {H : Cp} (b : BH n H) (k e : Nat) : ∀ i, i ≤ 12 → tMA k H e i < 128
  | 0, _ => by show 0 < 128; omega
  | i + 1, hi => by
    have ih := tMA_lt b k e i (by omega)
    have h3 := (b.2.2.1 i (by omega)).2.1
    unfold tMA
    split
    · exact (or_bit _ ih _ h3).2
    · exact ih
theorem clues_e {s : Hp} {N n : Nat} {H : Cp} (b : BH n H) (r : RH s 5 H) (hN : 60 < N) (h0 : ∀ i, i < 7 → s 43 i = nI 127 ∧ s 44 i = nI 0 ∧ s 45 i = nI 0) : ∃ s', t_X1_takeClues N s = some s' ∧ (∀ e, e < 7 → s' 43 e = nI (tAL H e (H 0 0)) ∧ s' 44 e = nI (tMA 0 H e (H 0 0)) ∧ s' 45 e = nI (tMA 1 H e (H 0 0))) ∧ ∀ a, (a < 43 ∨ 45 < a) → s' a = s a := by
  have hb := b.1
  unfold t_X1_takeClues t_X1_takeClues_2
  refine li2 _ (fun i (v : Int32) (t : Hp) => v = nI i ∧ (∀ e, e < 7 → t 43 e = nI (tAL H e i) ∧ t 44 e = nI (tMA 0 H e i) ∧ t 45 e = nI (tMA 1 H e i)) ∧ ∀ a, (a < 43 ∨ 45 < a) → t a = s a) (fun (t : Hp) => (∀ e, e < 7 → t 43 e = nI (tAL H e (H 0 0)) ∧ t 44 e = nI (tMA 0 H e (H 0 0)) ∧ t 45 e = nI (tMA 1 H e (H 0 0))) ∧ ∀ a, (a < 43 ∨ 45 < a) → t a = s a) (H 0 0) ?_ ?_ N 0 s (by omega) ⟨rfl, fun e he => h0 e he, fun _ _ => rfl⟩
  · intro i v t hi ⟨a1, a2, a3⟩
    subst a1
    have hi12 : i < 12 := by omega
    obtain ⟨c1, c2, c3⟩ := b.2.2.1 i hi12
    obtain ⟨d1, d2, d3⟩ := r.2.2.1 i hi12
    obtain ⟨w, hw⟩ : ∃ w, H 1 i = w := ⟨_, rfl⟩
    obtain ⟨x, hx⟩ : ∃ x, H 2 i = x := ⟨_, rfl⟩
    obtain ⟨o, ho⟩ : ∃ o, H 3 i = o := ⟨_, rfl⟩
    have uA : ∀ e, tAL H e (i + 1) = if w = 2 ∧ x = e then tAL H e i &&& 2 ^ o else if w = 3 ∧ x = e then tAL H e i &&& (127 - 2 ^ o) else tAL H e i := fun e => by rw [← hw, ← hx, ← ho]; rfl
    have uM : ∀ k e, tMA k H e (i + 1) = if w = k ∧ o = e then tMA k H e i ||| 2 ^ x else tMA k H e i := fun k e => by rw [← hw, ← hx, ← ho]; rfl
    rw [hw] at c1 d1; rw [hx] at c2 d2; rw [ho] at c3 d3
    have t5 : t 5 0 = nI (H 0 0) := by rw [a3 5 (by omega)]; exact r.1
    have fr : ∀ k : Int32 → Hp → Option Hp, ∀ s', t_X1_takeClue (nI w) (nI x) (nI o) t = some s' → (if (t 5 0) ≤ (nI i) then some t else Option.bind (t_X6_at 6 12 (nI i) t) (fun r1 : Int32 => Option.bind (t_X6_at 7 12 (nI i) t) (fun r2 : Int32 => Option.bind (t_X6_at 8 12 (nI i) t) (fun r3 : Int32 => Option.bind (t_X1_takeClue r1 r2 r3 t) (fun σ4 : Hp => bnd ((nI i) + 1) (fun x5 : Int32 => k x5 σ4)))))) = k (nI (i + 1)) s' := by
      intro k s' hs
      rw [t5, if_neg (nI_ge hi (by omega)), at_in hi12 (by omega), at_in hi12 (by omega), at_in hi12 (by omega), bind_s, bind_s, bind_s, a3 6 (by omega), a3 7 (by omega), a3 8 (by omega), d1, d2, d3, hs, bind_s, bnd_e, nI_1]
    obtain ⟨al1, al2, al3⟩ := a2 x c2
    obtain ⟨ao1, ao2, ao3⟩ := a2 o c3
    have lA := tAL_lt b x i (by omega)
    have l0 := tMA_lt b 0 o i (by omega)
    have l1 := tMA_lt b 1 o i (by omega)
    rcases (show w = 0 ∨ w = 1 ∨ w = 2 ∨ w = 3 by omega) with rfl | rfl | rfl | rfl
    · refine Or.inr ⟨nI (i + 1), hset t 44 o (nI (tMA 0 H o i ||| 2 ^ x)), ⟨rfl, fun e he => ⟨?_, ?_, ?_⟩, fun a ha => by rw [hs_o (by omega)]; exact a3 a ha⟩, fun k => fr k _ ?_⟩
      · rw [hs_o (by decide), uA, if_neg (by omega), if_neg (by omega)]; exact (a2 e he).1
      · rw [uM]
        by_cases c : o = e
        · rw [if_pos ⟨rfl, c⟩, ← c, hs_eq]
        · rw [if_neg (fun z => c z.2), hs_k (fun z => c z.symm)]; exact (a2 e he).2.1
      · rw [hs_o (by decide), uM, if_neg (by omega)]; exact (a2 e he).2.2
      · unfold t_X1_takeClue
        rw [if_pos (show nI 0 = (0 : Int32) from rfl), at_in c3 (by omega), bind_s, ao2, bit_e, bind_s, (or_bit _ l0 _ c2).1, put_in c3 (by omega), bind_s]
    · refine Or.inr ⟨nI (i + 1), hset t 45 o (nI (tMA 1 H o i ||| 2 ^ x)), ⟨rfl, fun e he => ⟨?_, ?_, ?_⟩, fun a ha => by rw [hs_o (by omega)]; exact a3 a ha⟩, fun k => fr k _ ?_⟩
      · rw [hs_o (by decide), uA, if_neg (by omega), if_neg (by omega)]; exact (a2 e he).1
      · rw [hs_o (by decide), uM, if_neg (by omega)]; exact (a2 e he).2.1
      · rw [uM]
        by_cases c : o = e
        · rw [if_pos ⟨rfl, c⟩, ← c, hs_eq]
        · rw [if_neg (fun z => c z.2), hs_k (fun z => c z.symm)]; exact (a2 e he).2.2
      · unfold t_X1_takeClue
        rw [if_neg (show ¬ nI 1 = (0 : Int32) by decide), if_pos (show nI 1 = (1 : Int32) from rfl), at_in c3 (by omega), bind_s, ao3, bit_e, bind_s, (or_bit _ l1 _ c2).1, put_in c3 (by omega), bind_s]
    · refine Or.inr ⟨nI (i + 1), hset t 43 x (nI (tAL H x i &&& 2 ^ o)), ⟨rfl, fun e he => ⟨?_, ?_, ?_⟩, fun a ha => by rw [hs_o (by omega)]; exact a3 a ha⟩, fun k => fr k _ ?_⟩
      · rw [uA]
        by_cases c : x = e
        · rw [if_pos ⟨rfl, c⟩, ← c, hs_eq]
        · rw [if_neg (fun z => c z.2), if_neg (by omega), hs_k (fun z => c z.symm)]; exact (a2 e he).1
      · rw [hs_o (by decide), uM, if_neg (by omega)]; exact (a2 e he).2.1
      · rw [hs_o (by decide), uM, if_neg (by omega)]; exact (a2 e he).2.2
      · unfold t_X1_takeClue
        rw [if_neg (show ¬ nI 2 = (0 : Int32) by decide), if_neg (show ¬ nI 2 = (1 : Int32) by decide), if_pos (show nI 2 = (2 : Int32) from rfl), at_in c2 (by omega), bind_s, al1, bit_e, bind_s, (and7 _ lA _ c3).1, put_in c2 (by omega), bind_s]
    · refine Or.inr ⟨nI (i + 1), hset t 43 x (nI (tAL H x i &&& (127 - 2 ^ o))), ⟨rfl, fun e he => ⟨?_, ?_, ?_⟩, fun a ha => by rw [hs_o (by omega)]; exact a3 a ha⟩, fun k => fr k _ ?_⟩
      · rw [uA, if_neg (by omega)]
        by_cases c : x = e
        · rw [if_pos ⟨rfl, c⟩, ← c, hs_eq]
        · rw [if_neg (fun z => c z.2), hs_k (fun z => c z.symm)]; exact (a2 e he).1
      · rw [hs_o (by decide), uM, if_neg (by omega)]; exact (a2 e he).2.1
      · rw [hs_o (by decide), uM, if_neg (by omega)]; exact (a2 e he).2.2
      · unfold t_X1_takeClue
        rw [if_neg (show ¬ nI 3 = (0 : Int32) by decide), if_neg (show ¬ nI 3 = (1 : Int32) by decide), if_neg (show ¬ nI 3 = (2 : Int32) by decide), at_in c2 (by omega), bind_s, al1, bit_e, bind_s, (and7 _ lA _ c3).2.2.1, put_in c2 (by omega), bind_s]
  · intro v t ⟨a1, a2, a3⟩
    subst a1
    refine ⟨t, ⟨a2, a3⟩, fun k => ?_⟩
    show (if t 5 0 ≤ nI (H 0 0) then _ else _) = _
    rw [a3 5 (by omega), r.1, if_pos (nI_le (Nat.le_refl _) (by omega))]
/-! a week without eating and mending: when each egg is warm -/
def vD (P : Nat → Nat) (n : Nat) (D0 : Cp) : Nat → Cp
  | 0 => D0
  | k + 1 => if kd P n k = 0 then WC (vD P n D0 k) n else if kd P n k = 1 then cset (vD P n D0 k) 0 1 (vD P n D0 k 0 1 ^^^ 2 ^ ahs P n k) else cset (vD P n D0 k) 2 (eg P n k * 5 + 3) (ahs P n k)
def wH (P : Nat → Nat) (n : Nat) (D0 : Cp) : Nat → Nat → Nat
  | 0, _ => 1000
  | k + 1, e => if kd P n k = 0 ∧ wH P n D0 k e = 1000 ∧ vD P n D0 (k + 1) 2 (e * 5) ≤ vD P n D0 (k + 1) 2 (e * 5 + 1) then aH P n (k + 1) else wH P n D0 k e
def cF (P : Nat → Nat) (n : Nat) : Nat → Nat → Nat
  | 0, _ => 0
  | k + 1, e => if kd P n k = 2 ∧ eg P n k = e then aH P n k + 1 else cF P n k e
theorem vD_o {P : Nat → Nat} {n a j : Nat} {D0 : Cp} (h : a ≠ 2) (h2 : ¬ (a = 0 ∧ j = 1)) : ∀ k, vD P n D0 k a j = D0 a j
  | 0 => rfl
  | k + 1 => by
    have ih := vD_o (P := P) (n := n) (D0 := D0) h h2 k
    unfold vD; split
    · rw [WC_o h]; exact ih
    · split
      · rw [cset_ne h2]; exact ih
      · rw [cset_ne (fun z => h z.1)]; exact ih
theorem BC_vD {P : Nat → Nat} {n m : Nat} {D0 : Cp} (hn : n ≤ 7) (b : BC D0) (h : ∀ k, k < m → vld P n k ∧ kd P n k ≤ 2) : ∀ k, k ≤ m → BC (vD P n D0 k)
  | 0, _ => b
  | k + 1, hk => by
    have ih := BC_vD hn b h k (by omega)
    have h2 := (h k (by omega)).2
    unfold vD
    rcases act_cs hn (h k (by omega)).1 with ⟨c1, _⟩ | ⟨c1, c2, c3, _⟩ | ⟨c1, c2, c3, c4, c5⟩
    · rw [if_pos c1]; exact BC_WC ih _ hn
    · rw [if_neg (by omega), if_pos c1]; exact BC_st ih (xr6 _ ih.2.1 _ c3).2
    · rw [if_neg (by omega), if_neg (by omega)]
      rcases c5 with ⟨_, _, h7⟩ | ⟨h7, _⟩ | ⟨h7, _⟩
      · exact BC_fact ih (by omega) (by omega) ⟨fun z => by omega, fun z => by omega, fun z => by omega, fun _ => h7, fun z => by omega⟩
      · omega
      · omega
theorem wH_le (P : Nat → Nat) (n : Nat) (D0 : Cp) (e : Nat) : ∀ k, wH P n D0 k e = 1000 ∨ wH P n D0 k e ≤ k
  | 0 => Or.inl rfl
  | k + 1 => by
    have ih := wH_le P n D0 e k
    have := aH_le P n (k + 1)
    unfold wH; split
    · exact Or.inr this
    · omega
theorem noteWarm_e {s : Hp} {N n h : Nat} {D : Cp} {w : Nat → Nat} (r : RC s 49 D) (b : BC D) (h38 : s 38 0 = nI n) (hn : n ≤ 7) (hN : 60 < N) (hw : ∀ e, e < n → s 46 e = nI (w e) ∧ w e < 2 ^ 31) : ∃ s', t_X1_noteWarm N (nI h) s = some s' ∧ (∀ e, e < n → s' 46 e = nI (if w e = 1000 ∧ D 2 (e * 5) ≤ D 2 (e * 5 + 1) then h else w e)) ∧ ∀ a, a ≠ 46 → s' a = s a := by
  unfold t_X1_noteWarm t_X1_noteWarm_2
  refine li3 _ (fun i (v1 : Int32) (v2 : Int32) (t : Hp) => v1 = nI h ∧ v2 = nI i ∧ (∀ e, e < n → t 46 e = nI (if e < i ∧ w e = 1000 ∧ D 2 (e * 5) ≤ D 2 (e * 5 + 1) then h else w e)) ∧ ∀ a, a ≠ 46 → t a = s a) (fun (t : Hp) => (∀ e, e < n → t 46 e = nI (if w e = 1000 ∧ D 2 (e * 5) ≤ D 2 (e * 5 + 1) then h else w e)) ∧ ∀ a, a ≠ 46 → t a = s a) n ?_ ?_ N (nI h) 0 s (by omega) ⟨rfl, rfl, fun e he => by rw [if_neg (fun z => by omega)]; exact (hw e he).1, fun _ _ => rfl⟩
  · intro i v1 v2 t hi ⟨a1, a2, a3, a4⟩
    subst a1; subst a2
    have hi7 : i < 7 := by omega
    have rt : RC t 49 D := RC_f r (fun a _ _ => a4 a (by omega))
    have t46 : t 46 i = nI (w i) := by rw [a3 i hi, if_neg (fun z => by omega)]
    have hwi := (hw i hi).2
    refine Or.inr ⟨nI h, nI (i + 1), if w i = 1000 ∧ D 2 (i * 5) ≤ D 2 (i * 5 + 1) then hset t 46 i (nI h) else t, ⟨rfl, rfl, fun e he => ?_, fun a ha => ?_⟩, fun k => ?_⟩
    · by_cases c : w i = 1000 ∧ D 2 (i * 5) ≤ D 2 (i * 5 + 1)
      · rw [if_pos c]
        by_cases ce : e = i
        · rw [ce, hs_eq, if_pos ⟨by omega, c⟩]
        · rw [hs_k ce, a3 e he]
          by_cases cc : e < i ∧ w e = 1000 ∧ D 2 (e * 5) ≤ D 2 (e * 5 + 1)
          · rw [if_pos cc, if_pos ⟨by omega, cc.2⟩]
          · rw [if_neg cc, if_neg (fun z => cc ⟨by omega, z.2⟩)]
      · rw [if_neg c, a3 e he]
        by_cases cc : e < i ∧ w e = 1000 ∧ D 2 (e * 5) ≤ D 2 (e * 5 + 1)
        · rw [if_pos cc, if_pos ⟨by omega, cc.2⟩]
        · rw [if_neg cc, if_neg (fun z => cc ⟨by
            have : ¬ e = i := fun y => c (by rw [← y]; exact z.2)
            omega, z.2⟩)]
    · split
      · rw [hs_o ha]; exact a4 a ha
      · exact a4 a ha
    · show (if t 38 0 ≤ nI i then _ else _) = _
      unfold t_X1_noteWarm_44
      rw [a4 38 (by decide), h38, if_neg (nI_ge hi (by omega)), at_in hi7 (by omega), bind_s, t46, show (1000 : Int32) = nI 1000 from rfl, eq_nI hwi (by omega), warm_e rt b hi7, bind_s, if_ne, put_in hi7 (by omega), bind_s, bnd_e, bnd_e, nI_1]
      by_cases c : w i = 1000
      · rw [if_pos c]
        by_cases c2 : D 2 (i * 5) ≤ D 2 (i * 5 + 1)
        · rw [if_pos c2, if_pos ⟨c, c2⟩]
        · rw [if_neg c2, if_neg (fun z => c2 z.2)]
      · rw [if_neg c, if_neg (fun z => c z.1)]
  · intro v1 v2 t ⟨a1, a2, a3, a4⟩
    subst a2
    refine ⟨t, ⟨fun e he => ?_, a4⟩, fun k => ?_⟩
    · rw [a3 e he]
      by_cases cc : w e = 1000 ∧ D 2 (e * 5) ≤ D 2 (e * 5 + 1)
      · rw [if_pos cc, if_pos ⟨he, cc⟩]
      · rw [if_neg cc, if_neg (fun z => cc z.2)]
    · show (if t 38 0 ≤ nI n then _ else _) = _
      rw [a4 38 (by decide), h38, if_pos (nI_le (Nat.le_refl _) (by omega))]
def tkF (N : Nat) (k23 : Int32 → Int32 → Hp → Option Hp) (v3 : Int32) (v4 : Int32) (σ : Hp) : Option Hp := if (σ 31 0) ≤ v4 then some σ else Option.bind (t_X3_sign v4 σ) (fun r2 : Int32 => if r2 = 46 then bnd (v3 + 1) (fun x9 : Int32 => Option.bind (t_X0_warm N 49 σ) (fun σ10 : Hp => Option.bind (t_X1_noteWarm N x9 σ10) (fun σ11 : Hp => t_X1_takeWeek_126 N k23 x9 v4 σ11))) else Option.bind (t_X6_isHouseSign r2) (fun r3 : Int32 => if r3 = 0 then bnd (v4 + 1) (fun x4 : Int32 => Option.bind (t_X3_sign x4 σ) (fun r5 : Int32 => Option.bind (t_X0_setFact 49 (r2 - 48) 3 (r5 - 65) σ) (fun σ6 : Hp => Option.bind (t_X6_put 47 7 (r2 - 48) v3 σ6) (fun σ7 : Hp => t_X1_takeWeek_126 N k23 v3 x4 σ7)))) else Option.bind (t_X0_turnStove 49 (r2 - 65) σ) (fun σ8 : Hp => t_X1_takeWeek_126 N k23 v3 v4 σ8)))
theorem takeWeek_e {P : Nat → Nat} {n pn m N : Nat} {D0 : Cp} {σ : Hp} (px : PadX σ pn P) (r : RC σ 2 D0) (b0 : BC D0) (hn : D0 0 0 = n) (hN : 60 < N) (hv : ∀ k, k < m → vld P n k ∧ kd P n k ≤ 2) (hm : ps P n m = pn) (h38 : σ 38 0 = nI n) (h47 : ∀ e, e < 7 → σ 47 e = (-1)) : ∃ s, t_X1_takeWeek N σ = some s ∧ (∀ e, e < n → s 46 e = nI (wH P n D0 m e)) ∧ (∀ e, e < 7 → s 47 e = nI (cF P n m e) + (-1)) ∧ ∀ a, (a < 46 ∨ a = 48) → s a = σ a := by
  have hb := b0.1
  have hp := px.2.1
  have hn7 : n ≤ 7 := by omega
  have hml : m ≤ pn := by have := ps_mono P n 0 m; rw [Nat.zero_add] at this; omega
  obtain ⟨s1, e1, f1, g1, c1⟩ := coopCopy_e (σ := σ) (N := N) (o := 49) (o2 := 2) (by omega) (by omega)
  obtain ⟨s2, e2, g2, f2⟩ := putAll_e (σ := s1) (N := N) (a := 46) (n := 7) (v := 1000) (by omega) (by omega)
  unfold t_X1_takeWeek t_X1_takeWeek_23
  rw [e1, bind_s, e2, bind_s]
  refine li3 _ (fun k v3 v4 s => v3 = nI (aH P n k) ∧ v4 = nI (ps P n k) ∧ RC s 49 (vD P n D0 k) ∧ (∀ e, e < n → s 46 e = nI (wH P n D0 k e)) ∧ (∀ e, e < 7 → s 47 e = nI (cF P n k e) + (-1)) ∧ ∀ a, (a < 46 ∨ a = 48) → s a = σ a) _ m ?_ ?_ N 0 0 s2 (by omega) ⟨rfl, rfl, RC_f (c1 D0 r) (fun a _ _ => f2 a (by omega)), fun e he => by rw [g2 e (by omega)]; show (1000 : Int32) = nI 1000; rfl, fun e he => by rw [f2 47 (by decide), f1 47 (by decide) (by decide) (by decide), h47 e he]; show (-1 : Int32) = nI 0 + (-1); decide, fun a ha => by rw [f2 a (by omega), f1 a (by omega) (by omega) (by omega)]⟩
  · intro k v3 v4 s hk ⟨a1, a2, a3, a4, a5, a6⟩
    subst a1; subst a2
    have bD := BC_vD hn7 b0 hv k (by omega)
    have bD1 := BC_vD hn7 b0 hv (k + 1) (by omega)
    have v0 : vD P n D0 k 0 0 = n := (vD_o (by omega) (by omega) k).trans hn
    have hlt := ps_lt hm hk
    have hh := aH_le P n k
    have pxs : PadX s pn P := by unfold PadX; rw [a6 31 (by omega), a6 32 (by omega)]; exact px
    have uD : vD P n D0 (k + 1) = if kd P n k = 0 then WC (vD P n D0 k) n else if kd P n k = 1 then cset (vD P n D0 k) 0 1 (vD P n D0 k 0 1 ^^^ 2 ^ ahs P n k) else cset (vD P n D0 k) 2 (eg P n k * 5 + 3) (ahs P n k) := rfl
    have uH : aH P n (k + 1) = aH P n k + if kd P n k = 0 then 1 else 0 := rfl
    have uW : ∀ e, wH P n D0 (k + 1) e = if kd P n k = 0 ∧ wH P n D0 k e = 1000 ∧ vD P n D0 (k + 1) 2 (e * 5) ≤ vD P n D0 (k + 1) 2 (e * 5 + 1) then aH P n (k + 1) else wH P n D0 k e := fun _ => rfl
    have uC : ∀ e, cF P n (k + 1) e = if kd P n k = 2 ∧ eg P n k = e then aH P n k + 1 else cF P n k e := fun _ => rfl
    have hk2 := (hv k hk).2
    rcases act_cs hn7 (hv k hk).1 with ⟨c1, c2, c3⟩ | ⟨c1, c2, c3, c4⟩ | ⟨c1, c2, c3, c4, c5⟩
    · rw [if_pos c1] at uD uH
      obtain ⟨t1, q1, q2, q3⟩ := warmX_e (N := N) a3 bD (by omega)
      rw [v0, ← uD] at q2
      obtain ⟨t2, w1, w2, w3⟩ := noteWarm_e (N := N) (n := n) (h := aH P n (k + 1)) (w := fun e => wH P n D0 k e) q2 bD1 (by rw [q3 38 (by decide), a6 38 (by omega)]; exact h38) hn7 hN (fun e he => by rw [q3 46 (by decide)]; exact ⟨a4 e he, by have := wH_le P n D0 e k; show wH P n D0 k e < 2 ^ 31; omega⟩)
      refine Or.inr ⟨nI (aH P n (k + 1)), nI (ps P n (k + 1)), t2, ⟨rfl, rfl, RC_f q2 (fun a _ _ => w3 a (by omega)), fun e he => ?_, fun e he => ?_, fun a ha => ?_⟩, fun kk => ?_⟩
      · rw [w2 e he, uW]
        by_cases c : wH P n D0 k e = 1000 ∧ vD P n D0 (k + 1) 2 (e * 5) ≤ vD P n D0 (k + 1) 2 (e * 5 + 1)
        · rw [if_pos c, if_pos ⟨c1, c⟩]
        · rw [if_neg c, if_neg (fun z => c z.2)]
      · rw [w3 47 (by decide), q3 47 (by decide), a5 e he, uC, if_neg (by omega)]
      · rw [w3 a (by omega), q3 a (by omega)]; exact a6 a ha
      · show tkF N kk (nI (aH P n k)) (nI (ps P n k)) s = _
        unfold tkF t_X1_takeWeek_126
        rw [pxs.1, if_neg (nI_ge (by omega) (by omega)), sign_e pxs (by omega), bind_s, c2, if_pos (show nI 46 = (46 : Int32) from rfl), bnd_e, nI_1, ← uH, q1, bind_s, w1, bind_s, bnd_e, nI_1, c3]
    · rw [if_neg (by omega), if_pos c1] at uD
      have uH : aH P n (k + 1) = aH P n k := by rw [uH, if_neg (show ¬ kd P n k = 0 by omega)]; exact Nat.add_zero (aH P n k)
      have hx := xr6 _ bD.2.1 _ c3
      refine Or.inr ⟨nI (aH P n (k + 1)), nI (ps P n (k + 1)), hset s 49 1 (nI (vD P n D0 k 0 1 ^^^ 2 ^ ahs P n k)), ⟨rfl, rfl, by rw [uD]; exact RC_st a3 _, fun e he => ?_, fun e he => ?_, fun a ha => by rw [hs_o (by omega)]; exact a6 a ha⟩, fun kk => ?_⟩
      · rw [hs_o (by decide), a4 e he, uW, if_neg (by omega)]
      · rw [hs_o (by decide), a5 e he, uC, if_neg (by omega)]
      · show tkF N kk (nI (aH P n k)) (nI (ps P n k)) s = _
        have hsg1 : hsg (ahs P n k + 65) = true := by unfold hsg; simp; omega
        unfold tkF t_X1_takeWeek_126
        rw [pxs.1, if_neg (nI_ge (by omega) (by omega)), sign_e pxs (by omega), bind_s, c2, show (46 : Int32) = nI 46 from rfl, eq_nI (by omega) (by omega), if_neg (by omega), hsg_w _ (by omega), hsg1, bind_s, if_neg (show ¬ bI true = 0 by decide), show (65 : Int32) = nI 65 from rfl, pk_sub (by omega), show ahs P n k + 65 - 65 = ahs P n k by omega, turnStove_e, a3.2.1, (pw6 _ c3).2, hx.1, bind_s, bnd_e, nI_1, c4, uH]
    · rcases c5 with ⟨d1, d2, d3⟩ | ⟨d1, _⟩ | ⟨d1, _⟩
      · rw [if_neg (by omega), if_neg (by omega)] at uD
        have uH : aH P n (k + 1) = aH P n k := by rw [uH, if_neg (show ¬ kd P n k = 0 by omega)]; exact Nat.add_zero (aH P n k)
        refine Or.inr ⟨nI (aH P n (k + 1)), nI (ps P n (k + 1)), hset (hset s 51 (eg P n k * 5 + 3) (nI (ahs P n k))) 47 (eg P n k) (nI (aH P n k)), ⟨rfl, rfl, ?_, fun e he => ?_, fun e he => ?_, fun a ha => by rw [hs_o (by omega), hs_o (by omega)]; exact a6 a ha⟩, fun kk => ?_⟩
        · rw [uD]; exact RC_f (RC_fact a3) (fun a _ _ => by simp (disch := omega) only [hs_o, hs_k])
        · rw [hs_o (by decide), hs_o (by decide), a4 e he, uW, if_neg (by omega)]
        · rw [uC]
          by_cases c : eg P n k = e
          · rw [if_pos ⟨d1, c⟩, ← c, hs_eq, nI_m1]
          · rw [if_neg (fun z => c z.2), hs_k (fun z => c z.symm), hs_o (by decide)]; exact a5 e he
        · show tkF N kk (nI (aH P n k)) (nI (ps P n k)) s = _
          have hsg1 : hsg (eg P n k + 48) = false := by unfold hsg; simp; omega
          unfold tkF t_X1_takeWeek_126
          rw [pxs.1, if_neg (nI_ge (by omega) (by omega)), sign_e pxs (by omega), bind_s, c2, show (46 : Int32) = nI 46 from rfl, eq_nI (by omega) (by omega), if_neg (by omega), hsg_w _ (by omega), hsg1, bind_s, if_pos (show bI false = 0 from rfl), bnd_e, nI_1, sign_e pxs (by omega), bind_s, d2, show (48 : Int32) = nI 48 from rfl, show (65 : Int32) = nI 65 from rfl, show (3 : Int32) = nI 3 from rfl, pk_sub (by omega), show eg P n k + 48 - 48 = eg P n k by omega, pk_sub (by omega), show ahs P n k + 65 - 65 = ahs P n k by omega, setFact_in (by omega) (by omega), bind_s, put_in (by omega) (by omega), bind_s, bnd_e, nI_1, show (49 + 2 : Nat) = 51 from rfl, c4, uH]
      · omega
      · omega
  · intro v3 v4 s ⟨a1, a2, a3, a4, a5, a6⟩
    subst a1; subst a2
    refine ⟨s, ⟨a4, a5, a6⟩, fun kk => ?_⟩
    show tkF N kk (nI (aH P n m)) (nI (ps P n m)) s = _
    unfold tkF
    rw [a6 31 (by omega), px.1, hm, if_pos (nI_le (Nat.le_refl _) (by omega))]
def tw (H : Cp) (i : Nat) : Nat := if H 5 i = 0 then 1000 else H 5 i
def tSE (H : Cp) (e : Nat) : Nat → Int32
  | 0 => (-1)
  | i + 1 => if H 4 i = e then (if tSE H e i = (-1) ∨ tSE H e i = nI (tw H i) then nI (tw H i) else (-2)) else tSE H e i
theorem sights_e {s : Hp} {N n : Nat} {H : Cp} (b : BH n H) (r : RH s 5 H) (hN : 60 < N) (h0 : ∀ i, i < 7 → s 48 i = (-1)) : ∃ s', t_X1_takeSights N s = some s' ∧ (∀ e, e < 7 → s' 48 e = tSE H e (H 0 1)) ∧ ∀ a, a ≠ 48 → s' a = s a := by
  have hb := b.2.1
  unfold t_X1_takeSights t_X1_takeSights_2
  refine li2 _ (fun i (v : Int32) (t : Hp) => v = nI i ∧ (∀ e, e < 7 → t 48 e = tSE H e i) ∧ ∀ a, a ≠ 48 → t a = s a) (fun (t : Hp) => (∀ e, e < 7 → t 48 e = tSE H e (H 0 1)) ∧ ∀ a, a ≠ 48 → t a = s a) (H 0 1) ?_ ?_ N 0 s (by omega) ⟨rfl, fun e he => h0 e he, fun _ _ => rfl⟩
  · intro i v t hi ⟨a1, a2, a3⟩
    subst a1
    have hi7 : i < 7 := by omega
    obtain ⟨c1, c2⟩ := b.2.2.2.1 i hi7
    obtain ⟨d1, d2⟩ := r.2.2.2 i hi7
    have u : ∀ e, tSE H e (i + 1) = if H 4 i = e then (if tSE H e i = (-1) ∨ tSE H e i = nI (tw H i) then nI (tw H i) else (-2)) else tSE H e i := fun _ => rfl
    refine Or.inr ⟨nI (i + 1), hset t 48 (H 4 i) (tSE H (H 4 i) (i + 1)), ⟨rfl, fun e he => ?_, fun a ha => by rw [hs_o ha]; exact a3 a ha⟩, fun k => ?_⟩
    · by_cases c : e = H 4 i
      · rw [c, hs_eq]
      · rw [hs_k c, u, if_neg (fun z => c z.symm)]; exact a2 e he
    · show (if t 5 1 ≤ nI i then _ else _) = _
      unfold t_X1_takeSights_42 t_X1_takeSights_72 t_X1_takeSights_79
      have tw1 : (if nI (H 5 i) = (0 : Int32) then (1000 : Int32) else nI (H 5 i)) = nI (tw H i) := by
        unfold tw
        rw [show (0 : Int32) = nI 0 from rfl, eq_nI (by omega) (by omega)]
        split <;> rfl
      rw [a3 5 (by decide), r.2.1, if_neg (nI_ge hi (by omega)), at_in hi7 (by omega), at_in hi7 (by omega), bind_s, bind_s, a3 9 (by decide), a3 10 (by decide), d1, d2, at_in c1 (by omega), bind_s, bind_s, a2 _ c1]
      simp only [put_in (k := H 4 i) (la := 7) c1 (by omega), bind_s, bnd_e, nI_1]
      rw [u, if_pos rfl]
      by_cases cw : H 5 i = 0
      · have e0 : tw H i = 1000 := if_pos cw
        rw [cw, if_pos (show nI 0 = (0 : Int32) from rfl), e0]
        by_cases q1 : tSE H (H 4 i) i = (-1)
        · rw [if_pos q1, if_pos (Or.inl q1)]; rfl
        · rw [if_neg q1]
          by_cases q2 : tSE H (H 4 i) i = nI 1000
          · rw [if_pos (show tSE H (H 4 i) i = (1000 : Int32) from q2), if_pos (Or.inr q2)]; rfl
          · rw [if_neg (show ¬ tSE H (H 4 i) i = (1000 : Int32) from q2), if_neg (fun z => z.elim q1 q2)]
      · have e0 : tw H i = H 5 i := if_neg cw
        rw [if_neg (nI_ne0 (by omega) (by omega)), e0]
        by_cases q1 : tSE H (H 4 i) i = (-1)
        · rw [if_pos q1, if_pos (Or.inl q1)]
        · rw [if_neg q1]
          by_cases q2 : tSE H (H 4 i) i = nI (H 5 i)
          · rw [if_pos q2, if_pos (Or.inr q2)]
          · rw [if_neg q2, if_neg (fun z => z.elim q1 q2)]
  · intro v t ⟨a1, a2, a3⟩
    subst a1
    refine ⟨t, ⟨a2, a3⟩, fun k => ?_⟩
    show (if t 5 1 ≤ nI (H 0 1) then _ else _) = _
    rw [a3 5 (by decide), r.2.1, if_pos (nI_le (Nat.le_refl _) (by omega))]
