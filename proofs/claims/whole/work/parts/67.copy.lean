/-! rows copied, coops copied, hints copied -/
theorem copyRow_e {σ : Hp} {N a b n : Nat} (hab : a ≠ b) (hn : n < N) (hn2 : n < 2 ^ 31) : ∃ σ', t_X6_copyRow N a n b n σ = some σ' ∧ (∀ c, c ≠ b → σ' c = σ c) ∧ ∀ i, i < n → σ' b i = σ a i := by
  unfold t_X6_copyRow t_X6_copyRow_11
  refine (li2 _ (fun i (v : Int32) (s : Hp) => v = nI i ∧ (∀ c, c ≠ b → s c = σ c) ∧ ∀ j, j < i → s b j = σ a j) (fun (s : Hp) => (∀ c, c ≠ b → s c = σ c) ∧ ∀ i, i < n → s b i = σ a i) n ?_ ?_ N 0 σ hn ⟨rfl, fun _ _ => rfl, fun j hj => absurd hj (Nat.not_lt_zero j)⟩)
  · intro i v s hi ⟨a1, a2, a3⟩
    subst a1
    refine Or.inr ⟨nI (i + 1), hset s b i (s a i), ⟨rfl, fun c hc => by rw [hs_o hc]; exact a2 c hc, fun j hj => ?_⟩, fun k => ?_⟩
    · by_cases h : j = i
      · subst h; rw [hs_eq, a2 a hab]
      · rw [hs_k h]; exact a3 j (by omega)
    · show (if Int32.ofNat n ≤ nI i then _ else if Int32.ofNat n ≤ nI i then _ else _) = _
      rw [if_neg (show ¬ Int32.ofNat n ≤ nI i from nI_ge hi hn2), if_neg (show ¬ Int32.ofNat n ≤ nI i from nI_ge hi hn2), gi_in hi hn2, gi_in hi hn2, nI_clamp (by omega), bnd_e, bnd_e, nI_1]
  · intro v s ⟨a1, a2, a3⟩
    subst a1
    exact ⟨s, ⟨a2, a3⟩, fun k => if_pos (show Int32.ofNat n ≤ nI n from nI_le (Nat.le_refl _) hn2)⟩
theorem coopCopy_e {σ : Hp} {N o o2 : Nat} (hN : 35 < N) (ho : o + 2 < o2 ∨ o2 + 2 < o) : ∃ σ', t_X0_copyFrom N o o2 σ = some σ' ∧ (∀ c, c ≠ o → c ≠ o + 1 → c ≠ o + 2 → σ' c = σ c) ∧ (∀ j, 1 < j → σ' o j = σ o j) ∧ ∀ C, RC σ o2 C → RC σ' o C := by
  unfold t_X0_copyFrom
  rw [bnd_e, bnd_e]
  obtain ⟨s1, e1, f1, g1⟩ := copyRow_e (σ := hset (hset σ o 0 (σ o2 0)) o 1 (hset σ o 0 (σ o2 0) o2 1)) (N := N) (a := o2 + 1) (b := o + 1) (n := 7) (by omega) (by omega) (by omega)
  obtain ⟨s2, e2, f2, g2⟩ := copyRow_e (σ := s1) (N := N) (a := o2 + 2) (b := o + 2) (n := 35) (by omega) (by omega) (by omega)
  rw [e1, bind_s, e2, bind_s]
  refine ⟨s2, rfl, fun c h0 h1 h2 => ?_, fun j hj => ?_, fun C r => ?_⟩
  · rw [f2 c h2, f1 c h1]; simp (disch := omega) only [hs_o, hs_k]
  · rw [f2 o (by omega), f1 o (by omega)]; simp (disch := omega) only [hs_o, hs_k]
  · refine ⟨?_, ?_, fun p hp => ?_, fun j hj => ?_⟩
    · rw [f2 o (by omega), f1 o (by omega), hs_k (by decide), hs_eq]; exact r.1
    · rw [f2 o (by omega), f1 o (by omega), hs_eq, hs_o (by omega)]; exact r.2.1
    · rw [f2 (o + 1) (by omega), g1 p hp]; simp (disch := omega) only [hs_o, hs_k]; exact r.2.2.1 p hp
    · rw [g2 j hj, f1 (o2 + 2) (by omega)]; simp (disch := omega) only [hs_o, hs_k]; exact r.2.2.2 j hj
theorem hintCopy_e {σ : Hp} {N o o2 : Nat} (hN : 35 < N) (ho : o + 5 < o2 ∨ o2 + 5 < o) : ∃ σ', t_X2_copyFrom N o o2 σ = some σ' ∧ (∀ c, (c < o ∨ o + 5 < c) → σ' c = σ c) ∧ ∀ H, RH σ o2 H → RH σ' o H := by
  unfold t_X2_copyFrom
  rw [bnd_e, bnd_e]
  obtain ⟨s1, e1, f1, g1⟩ := copyRow_e (σ := hset (hset σ o 0 (σ o2 0)) o 1 (hset σ o 0 (σ o2 0) o2 1)) (N := N) (a := o2 + 1) (b := o + 1) (n := 12) (by omega) (by omega) (by omega)
  obtain ⟨s2, e2, f2, g2⟩ := copyRow_e (σ := s1) (N := N) (a := o2 + 2) (b := o + 2) (n := 12) (by omega) (by omega) (by omega)
  obtain ⟨s3, e3, f3, g3⟩ := copyRow_e (σ := s2) (N := N) (a := o2 + 3) (b := o + 3) (n := 12) (by omega) (by omega) (by omega)
  obtain ⟨s4, e4, f4, g4⟩ := copyRow_e (σ := s3) (N := N) (a := o2 + 4) (b := o + 4) (n := 7) (by omega) (by omega) (by omega)
  obtain ⟨s5, e5, f5, g5⟩ := copyRow_e (σ := s4) (N := N) (a := o2 + 5) (b := o + 5) (n := 7) (by omega) (by omega) (by omega)
  rw [e1, bind_s, e2, bind_s, e3, bind_s, e4, bind_s, e5, bind_s]
  refine ⟨s5, rfl, fun c hc => ?_, fun H r => ?_⟩
  · rw [f5 c (by omega), f4 c (by omega), f3 c (by omega), f2 c (by omega), f1 c (by omega)]; simp (disch := omega) only [hs_o, hs_k]
  · refine ⟨?_, ?_, fun i hi => ⟨?_, ?_, ?_⟩, fun i hi => ⟨?_, ?_⟩⟩
    · rw [f5 o (by omega), f4 o (by omega), f3 o (by omega), f2 o (by omega), f1 o (by omega), hs_k (by decide), hs_eq]; exact r.1
    · rw [f5 o (by omega), f4 o (by omega), f3 o (by omega), f2 o (by omega), f1 o (by omega), hs_eq, hs_o (by omega)]; exact r.2.1
    · rw [f5 (o + 1) (by omega), f4 (o + 1) (by omega), f3 (o + 1) (by omega), f2 (o + 1) (by omega), g1 i hi]; simp (disch := omega) only [hs_o, hs_k]; exact (r.2.2.1 i hi).1
    · rw [f5 (o + 2) (by omega), f4 (o + 2) (by omega), f3 (o + 2) (by omega), g2 i hi, f1 (o2 + 2) (by omega)]; simp (disch := omega) only [hs_o, hs_k]; exact (r.2.2.1 i hi).2.1
    · rw [f5 (o + 3) (by omega), f4 (o + 3) (by omega), g3 i hi, f2 (o2 + 3) (by omega), f1 (o2 + 3) (by omega)]; simp (disch := omega) only [hs_o, hs_k]; exact (r.2.2.1 i hi).2.2
    · rw [f5 (o + 4) (by omega), g4 i hi, f3 (o2 + 4) (by omega), f2 (o2 + 4) (by omega), f1 (o2 + 4) (by omega)]; simp (disch := omega) only [hs_o, hs_k]; exact (r.2.2.2 i hi).1
    · rw [g5 i hi, f4 (o2 + 5) (by omega), f3 (o2 + 5) (by omega), f2 (o2 + 5) (by omega), f1 (o2 + 5) (by omega)]; simp (disch := omega) only [hs_o, hs_k]; exact (r.2.2.2 i hi).2
theorem sceneCopy_e {σ : Hp} {N o o2 : Nat} (hN : 35 < N) (ho : o + 9 < o2 ∨ o2 + 9 < o) : ∃ σ', t_X4_copyFrom N o o2 σ = some σ' ∧ (∀ c, (c ≤ o ∨ o + 9 < c) → σ' c = σ c) ∧ ∀ C H, RC σ (o2 + 1) C → RH σ (o2 + 4) H → RC σ' (o + 1) C ∧ RH σ' (o + 4) H := by
  unfold t_X4_copyFrom
  obtain ⟨s1, e1, f1, g1, h1⟩ := coopCopy_e (σ := σ) (N := N) (o := o + 1) (o2 := o2 + 1) hN (by omega)
  obtain ⟨s2, e2, f2, h2⟩ := hintCopy_e (σ := s1) (N := N) (o := o + 4) (o2 := o2 + 4) hN (by omega)
  rw [e1, bind_s, e2, bind_s]
  refine ⟨s2, rfl, fun c hc => ?_, fun C H rc rh => ⟨?_, ?_⟩⟩
  · rw [f2 c (by omega), f1 c (by omega) (by omega) (by omega)]
  · exact RC_f (h1 C rc) (fun a _ _ => f2 a (by omega))
  · exact h2 H (RH_f rh (fun a _ _ => f1 a (by omega) (by omega) (by omega)))
/-! the model's pass over all that is kept -/
def la (m : Nat) : Nat := if m < 4 then 0 else if m < 60 then (if (m - 4) % 8 < 6 then (m - 4) % 8 + 1 else (m - 4) % 8 + 4) else 7 + (m - 60) % 3
def li (m : Nat) : Nat := if m < 4 then (if m = 0 then 0 else if m = 1 then 7 else if m = 2 then 11 else 14) else if m < 60 then (m - 4) / 8 else (m - 60) / 3
def fA (C H : Cp) (e k : Nat) : Nat := if k < 5 then C 2 (e * 5 + k) else if k = 5 then C 1 e else if k = 6 then H 4 e else H 5 e
def fK (C H : Cp) (m : Nat) : Nat := if m < 4 then (if m = 0 then C 0 0 else if m = 1 then C 0 1 else if m = 2 then H 0 0 else H 0 1) else if m < 60 then fA C H ((m - 4) / 8) ((m - 4) % 8) else H (1 + (m - 60) % 3) ((m - 60) / 3)
theorem mid {e k : Nat} (he : e < 7) (hk : k < 8) : la (4 + 8 * e + k) = (if k < 6 then k + 1 else k + 4) ∧ li (4 + 8 * e + k) = e ∧ ∀ C H, fK C H (4 + 8 * e + k) = fA C H e k := by
  have h1 : (4 + 8 * e + k - 4) % 8 = k := by omega
  have h2 : (4 + 8 * e + k - 4) / 8 = e := by omega
  refine ⟨?_, ?_, fun C H => ?_⟩
  · unfold la; rw [if_neg (by omega), if_pos (by omega), h1]
  · unfold li; rw [if_neg (by omega), if_pos (by omega), h2]
  · unfold fK; rw [if_neg (by omega), if_pos (by omega), h1, h2]
theorem lst {i k : Nat} (hi : i < 12) (hk : k < 3) : la (60 + 3 * i + k) = 7 + k ∧ li (60 + 3 * i + k) = i ∧ ∀ C H, fK C H (60 + 3 * i + k) = H (1 + k) i := by
  have h1 : (60 + 3 * i + k - 60) % 3 = k := by omega
  have h2 : (60 + 3 * i + k - 60) / 3 = i := by omega
  refine ⟨?_, ?_, fun C H => ?_⟩
  · unfold la; rw [if_neg (by omega), if_neg (by omega), h1]
  · unfold li; rw [if_neg (by omega), if_neg (by omega), h2]
  · unfold fK; rw [if_neg (by omega), if_neg (by omega), h1, h2]
theorem mcs {m : Nat} (h : m < 96) : (m < 4) ∨ (∃ e k, e < 7 ∧ k < 8 ∧ m = 4 + 8 * e + k) ∨ ∃ i k, i < 12 ∧ k < 3 ∧ m = 60 + 3 * i + k := by
  rcases (show m < 4 ∨ (4 ≤ m ∧ m < 60) ∨ 60 ≤ m by omega) with h1 | h1 | h1
  · exact Or.inl h1
  · exact Or.inr (Or.inl ⟨(m - 4) / 8, (m - 4) % 8, by omega, by omega, by omega⟩)
  · exact Or.inr (Or.inr ⟨(m - 60) / 3, (m - 60) % 3, by omega, by omega, by omega⟩)
theorem k8 {k : Nat} (h : k < 8) : k = 0 ∨ k = 1 ∨ k = 2 ∨ k = 3 ∨ k = 4 ∨ k = 5 ∨ k = 6 ∨ k = 7 := by omega
theorem RMN_to {τ : Hp} {C H : Cp} (r : RM τ C) (q : RN τ H) : ∀ m, m < 96 → τ (la m) (li m) = nI (fK C H m) := by
  intro m hm
  rcases mcs hm with h | ⟨e, k, he, hk, rfl⟩ | ⟨i, k, hi, hk, rfl⟩
  · rcases (show m = 0 ∨ m = 1 ∨ m = 2 ∨ m = 3 by omega) with rfl | rfl | rfl | rfl
    · exact r.1
    · exact r.2.1
    · exact q.1
    · exact q.2.1
  · obtain ⟨h1, h2, h3⟩ := mid he hk
    obtain ⟨d0, d1, d2, d3, d4⟩ := r.2.2.2 e he
    rw [h1, h2, h3]
    rcases k8 hk with rfl | rfl | rfl | rfl | rfl | rfl | rfl | rfl
    · exact d0
    · exact d1
    · exact d2
    · exact d3
    · exact d4
    · exact r.2.2.1 e he
    · exact (q.2.2.2 e he).1
    · exact (q.2.2.2 e he).2
  · obtain ⟨h1, h2, h3⟩ := lst hi hk
    obtain ⟨d0, d1, d2⟩ := q.2.2.1 i hi
    rw [h1, h2, h3]
    rcases (show k = 0 ∨ k = 1 ∨ k = 2 by omega) with rfl | rfl | rfl
    · exact d0
    · exact d1
    · exact d2
theorem RMN_of {τ : Hp} {C H : Cp} (h : ∀ m, m < 96 → τ (la m) (li m) = nI (fK C H m)) : RM τ C ∧ RN τ H := by
  have g : ∀ e k, e < 7 → k < 8 → τ (if k < 6 then k + 1 else k + 4) e = nI (fA C H e k) := fun e k he hk => by
    obtain ⟨h1, h2, h3⟩ := mid he hk
    have := h (4 + 8 * e + k) (by omega)
    rw [h1, h2, h3] at this; exact this
  have f : ∀ i k, i < 12 → k < 3 → τ (7 + k) i = nI (H (1 + k) i) := fun i k hi hk => by
    obtain ⟨h1, h2, h3⟩ := lst hi hk
    have := h (60 + 3 * i + k) (by omega)
    rw [h1, h2, h3] at this; exact this
  exact ⟨⟨h 0 (by omega), h 1 (by omega), fun e he => g e 5 he (by omega), fun e he => ⟨g e 0 he (by omega), g e 1 he (by omega), g e 2 he (by omega), g e 3 he (by omega), g e 4 he (by omega)⟩⟩, h 2 (by omega), h 3 (by omega), fun i hi => ⟨f i 0 hi (by omega), f i 1 hi (by omega), f i 2 hi (by omega)⟩, fun e he => ⟨g e 6 he (by omega), g e 7 he (by omega)⟩⟩
theorem RK_to {τ : Hp} {b : Nat} {C H : Cp} (r : RK τ b C H) : ∀ m, m < 96 → τ 25 (b + m) = nI (fK C H m) := by
  intro m hm
  rcases mcs hm with h | ⟨e, k, he, hk, rfl⟩ | ⟨i, k, hi, hk, rfl⟩
  · rcases (show m = 0 ∨ m = 1 ∨ m = 2 ∨ m = 3 by omega) with rfl | rfl | rfl | rfl
    · exact r.1
    · exact r.2.1
    · exact r.2.2.1
    · exact r.2.2.2.1
  · obtain ⟨h1, h2, h3⟩ := mid he hk
    obtain ⟨d0, d1, d2, d3, d4, d5, d6, d7⟩ := r.2.2.2.2.1 e he
    rw [h3, show b + (4 + 8 * e + k) = b + 4 + 8 * e + k by omega]
    rcases k8 hk with rfl | rfl | rfl | rfl | rfl | rfl | rfl | rfl
    · exact d0
    · exact d1
    · exact d2
    · exact d3
    · exact d4
    · exact d5
    · exact d6
    · exact d7
  · obtain ⟨h1, h2, h3⟩ := lst hi hk
    obtain ⟨d0, d1, d2⟩ := r.2.2.2.2.2 i hi
    rw [h3, show b + (60 + 3 * i + k) = b + 60 + 3 * i + k by omega]
    rcases (show k = 0 ∨ k = 1 ∨ k = 2 by omega) with rfl | rfl | rfl
    · exact d0
    · exact d1
    · exact d2
theorem RK_of {τ : Hp} {b : Nat} {C H : Cp} (h : ∀ m, m < 96 → τ 25 (b + m) = nI (fK C H m)) : RK τ b C H := by
  have g : ∀ e k, e < 7 → k < 8 → τ 25 (b + 4 + 8 * e + k) = nI (fA C H e k) := fun e k he hk => by
    obtain ⟨h1, h2, h3⟩ := mid he hk
    have := h (4 + 8 * e + k) (by omega)
    rw [h3, show b + (4 + 8 * e + k) = b + 4 + 8 * e + k by omega] at this; exact this
  have f : ∀ i k, i < 12 → k < 3 → τ 25 (b + 60 + 3 * i + k) = nI (H (1 + k) i) := fun i k hi hk => by
    obtain ⟨h1, h2, h3⟩ := lst hi hk
    have := h (60 + 3 * i + k) (by omega)
    rw [h3, show b + (60 + 3 * i + k) = b + 60 + 3 * i + k by omega] at this; exact this
  exact ⟨h 0 (by omega), h 1 (by omega), h 2 (by omega), h 3 (by omega), fun e he => ⟨g e 0 he (by omega), g e 1 he (by omega), g e 2 he (by omega), g e 3 he (by omega), g e 4 he (by omega), g e 5 he (by omega), g e 6 he (by omega), g e 7 he (by omega)⟩, fun i hi => ⟨f i 0 hi (by omega), f i 1 hi (by omega), f i 2 hi (by omega)⟩⟩
theorem passAll_e {N : Nat} (hN : 12 < N) (S : Nat → Hp) (h : ∀ m, m < 96 → ∃ r s, t_X7_pass (S m (la m) (li m)) (S m) = some (r, s) ∧ hset s (la m) (li m) r = S (m + 1)) : t_X7_passAll N (S 0) = some (S 96) := by
  have st : ∀ {R : Type} m a i (K : Hp → Option R), m < 96 → la m = a → li m = i → b2 (t_X7_pass (S m a i) (S m)) (fun r s => bnd (hset s a i r) K) = K (S (m + 1)) := by
    intro R m a i K hm ha hi
    obtain ⟨r, s, h1, h2⟩ := h m hm
    subst ha; subst hi
    rw [h1, b2_s, bnd_e, h2]
  have l3 : t_X7_passAll_192 N N 0 (S 60) = some (S 96) := by
    unfold t_X7_passAll_192
    refine lr2 _ (fun i => nI i) (fun i => S (60 + 3 * i)) 12 _ ?_ ?_ N (by omega)
    · intro i hi k
      have q := fun d (hd : d < 3) => lst hi hd
      show (if (12 : Int32) ≤ nI i then _ else _) = _
      rw [if_neg (show ¬ (12 : Int32) ≤ nI i from nI_ge (a := i) (b := 12) hi (by omega))]
      simp only [gi_in (k := i) (n := 12) hi (by omega), nI_clamp (n := i) (by omega)]
      refine (st (60 + 3 * i) 7 i _ (by omega) (q 0 (by omega)).1 (q 0 (by omega)).2.1).trans ?_
      refine (st (60 + 3 * i + 1) 8 i _ (by omega) (q 1 (by omega)).1 (q 1 (by omega)).2.1).trans ?_
      refine (st (60 + 3 * i + 2) 9 i _ (by omega) (q 2 (by omega)).1 (q 2 (by omega)).2.1).trans ?_
      rw [bnd_e, nI_1]; rfl
    · intro k
      exact if_pos (by decide)
  have l2 : t_X7_passAll_50 N N 0 (S 4) = some (S 96) := by
    unfold t_X7_passAll_50
    refine lr2 _ (fun i => nI i) (fun i => S (4 + 8 * i)) 7 _ ?_ ?_ N (by omega)
    · intro i hi k
      have q := fun d (hd : d < 8) => mid hi hd
      show (if (7 : Int32) ≤ nI i then _ else _) = _
      rw [if_neg (show ¬ (7 : Int32) ≤ nI i from nI_ge (a := i) (b := 7) hi (by omega))]
      simp only [gi_in (k := i) (n := 7) hi (by omega), nI_clamp (n := i) (by omega)]
      refine (st (4 + 8 * i) 1 i _ (by omega) (q 0 (by omega)).1 (q 0 (by omega)).2.1).trans ?_
      refine (st (4 + 8 * i + 1) 2 i _ (by omega) (q 1 (by omega)).1 (q 1 (by omega)).2.1).trans ?_
      refine (st (4 + 8 * i + 2) 3 i _ (by omega) (q 2 (by omega)).1 (q 2 (by omega)).2.1).trans ?_
      refine (st (4 + 8 * i + 3) 4 i _ (by omega) (q 3 (by omega)).1 (q 3 (by omega)).2.1).trans ?_
      refine (st (4 + 8 * i + 4) 5 i _ (by omega) (q 4 (by omega)).1 (q 4 (by omega)).2.1).trans ?_
      refine (st (4 + 8 * i + 5) 6 i _ (by omega) (q 5 (by omega)).1 (q 5 (by omega)).2.1).trans ?_
      refine (st (4 + 8 * i + 6) 10 i _ (by omega) (q 6 (by omega)).1 (q 6 (by omega)).2.1).trans ?_
      refine (st (4 + 8 * i + 7) 11 i _ (by omega) (q 7 (by omega)).1 (q 7 (by omega)).2.1).trans ?_
      rw [bnd_e, nI_1]; rfl
    · intro k
      exact (if_pos (by decide)).trans l3
  unfold t_X7_passAll
  refine (st 0 0 0 _ (by omega) rfl rfl).trans ?_
  refine (st 1 0 7 _ (by omega) rfl rfl).trans ?_
  refine (st 2 0 11 _ (by omega) rfl rfl).trans ?_
  refine (st 3 0 14 _ (by omega) rfl rfl).trans ?_
  exact l2
