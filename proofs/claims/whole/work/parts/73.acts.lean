/-! the acts of a week -/
def why (P : Nat → Nat) (n : Nat) (D : Cp) (k : Nat) : Nat := if kd P n k < 2 then 0 else if D 2 (eg P n k * 5 + 4) = 1 then 1 else if kd P n k = 4 then (if D 2 (eg P n k * 5 + 4) = 0 then 3 else 0) else if D 2 (eg P n k * 5 + 4) = 2 then 2 else 0
def nxD (P : Nat → Nat) (n : Nat) (D : Cp) (k : Nat) : Cp := if kd P n k = 0 then hrC D else if kd P n k = 1 then cset D 0 1 (D 0 1 ^^^ 2 ^ ahs P n k) else if kd P n k = 2 then cset D 2 (eg P n k * 5 + 3) (ahs P n k) else if kd P n k = 3 then cset D 2 (eg P n k * 5 + 4) 2 else cset D 2 (eg P n k * 5 + 4) 1
def aD (P : Nat → Nat) (n : Nat) (D0 : Cp) : Nat → Cp
  | 0 => D0
  | k + 1 => nxD P n (aD P n D0 k) k
def aH (P : Nat → Nat) (n : Nat) : Nat → Nat
  | 0 => 0
  | k + 1 => aH P n k + if kd P n k = 0 then 1 else 0
def aN (P : Nat → Nat) (n : Nat) (D0 : Cp) : Nat → Nat
  | 0 => 0
  | k + 1 => aN P n D0 k + if kd P n k = 0 then pop7 (hbC (aD P n D0 k)) else 0
def aT (P : Nat → Nat) (n : Nat) (D0 : Cp) : Nat → Nat → Int32
  | 0, e => if D0 2 (e * 5 + 4) = 1 then nI 0 else (-6)
  | k + 1, e => if kd P n k = 0 then (if (hbC (aD P n D0 k)).testBit e = true then nI (aH P n k + 1) else aT P n D0 k e) else if kd P n k = 4 ∧ e = eg P n k then nI 0 else aT P n D0 k e
theorem act_cs {P : Nat → Nat} {n k : Nat} (hn : n ≤ 7) (h : vld P n k) : (kd P n k = 0 ∧ P (ps P n k) = 46 ∧ ps P n (k + 1) = ps P n k + 1) ∨ (kd P n k = 1 ∧ P (ps P n k) = ahs P n k + 65 ∧ ahs P n k < 6 ∧ ps P n (k + 1) = ps P n k + 1) ∨ (2 ≤ kd P n k ∧ P (ps P n k) = eg P n k + 48 ∧ eg P n k < n ∧ ps P n (k + 1) = ps P n k + 2 ∧ ((kd P n k = 2 ∧ P (ps P n k + 1) = ahs P n k + 65 ∧ ahs P n k < 6) ∨ (kd P n k = 3 ∧ P (ps P n k + 1) = 33) ∨ (kd P n k = 4 ∧ P (ps P n k + 1) = 43))) := by
  obtain ⟨h1, h2⟩ := h
  have hp : ps P n (k + 1) = ps P n k + if dgt n (P (ps P n k)) = true then 2 else 1 := rfl
  cases hd : dgt n (P (ps P n k))
  · have h3 := h2 hd
    have hk : kd P n k = if P (ps P n k) = 46 then 0 else 1 := by unfold kd; rw [hd, if_neg (by decide)]
    rw [hd, if_neg (by decide)] at hp
    unfold okS at h3
    rw [if_neg (by decide), hd, Bool.false_or] at h3
    by_cases h46 : P (ps P n k) = 46
    · exact Or.inl ⟨by rw [hk, if_pos h46], h46, hp⟩
    · have hh : hsg (P (ps P n k)) = true := by simpa [h46] using h3
      have g := hsg_i hh
      have ha : ahs P n k = P (ps P n k) - 65 := by unfold ahs; rw [hd, if_neg (by decide)]
      exact Or.inr (Or.inl ⟨by rw [hk, if_neg h46], by omega, by omega, hp⟩)
  · have h3 := h1 hd
    have d := dgt_i hd
    have hk : kd P n k = if hsg (P (ps P n k + 1)) = true then 2 else if P (ps P n k + 1) = 33 then 3 else 4 := by unfold kd; rw [if_pos hd]
    rw [if_pos hd] at hp
    unfold okS at h3
    rw [if_pos rfl] at h3
    have he : eg P n k = P (ps P n k) - 48 := rfl
    have ha : ahs P n k = P (ps P n k + 1) - 65 := by unfold ahs; rw [if_pos hd]
    refine Or.inr (Or.inr ?_)
    by_cases hh : hsg (P (ps P n k + 1)) = true
    · have g := hsg_i hh
      rw [if_pos hh] at hk
      exact ⟨by omega, by omega, by omega, hp, Or.inl ⟨hk, by omega, by omega⟩⟩
    · rw [if_neg hh] at hk
      by_cases h33 : P (ps P n k + 1) = 33
      · rw [if_pos h33] at hk
        exact ⟨by omega, by omega, by omega, hp, Or.inr (Or.inl ⟨hk, h33⟩)⟩
      · rw [if_neg h33] at hk
        have h43 : P (ps P n k + 1) = 43 := by simpa [hh, h33] using h3
        exact ⟨by omega, by omega, by omega, hp, Or.inr (Or.inr ⟨hk, h43⟩)⟩
theorem ps_mono (P : Nat → Nat) (n k : Nat) : ∀ d, ps P n k + d ≤ ps P n (k + d)
  | 0 => Nat.le_refl _
  | d + 1 => by
    have ih := ps_mono P n k d
    have : ps P n (k + (d + 1)) = ps P n (k + d) + if dgt n (P (ps P n (k + d))) = true then 2 else 1 := rfl
    rw [this]; split <;> omega
theorem ps_lt {P : Nat → Nat} {n m pn k : Nat} (h : ps P n m = pn) (hk : k < m) : ps P n (k + 1) ≤ pn := by
  have := ps_mono P n (k + 1) (m - (k + 1))
  rw [show k + 1 + (m - (k + 1)) = m by omega] at this; omega
theorem BC_nx {P : Nat → Nat} {n k : Nat} {D : Cp} (hn : n ≤ 7) (h : vld P n k) (b : BC D) : BC (nxD P n D k) := by
  unfold nxD
  rcases act_cs hn h with ⟨h1, -⟩ | ⟨h1, h2, h3, -⟩ | ⟨h1, h2, h3, h4, h5⟩
  · rw [if_pos h1]; exact BC_hr b
  · rw [if_neg (by omega), if_pos h1]; exact BC_st b (xr6 _ b.2.1 _ h3).2
  · rw [if_neg (by omega), if_neg (by omega)]
    split
    · rename_i h6
      rcases h5 with ⟨_, _, h7⟩ | ⟨h7, _⟩ | ⟨h7, _⟩
      · exact BC_fact b (by omega) (by omega) ⟨fun z => by omega, fun z => by omega, fun z => by omega, fun _ => h7, fun z => by omega⟩
      · omega
      · omega
    · split
      · exact BC_fact b (by omega) (by omega) ⟨fun z => by omega, fun z => by omega, fun z => by omega, fun z => by omega, fun _ => by omega⟩
      · exact BC_fact b (by omega) (by omega) ⟨fun z => by omega, fun z => by omega, fun z => by omega, fun z => by omega, fun _ => by omega⟩
theorem nx_o {P : Nat → Nat} {n k a j : Nat} {D : Cp} (h : a ≠ 2) (h2 : ¬ (a = 0 ∧ j = 1)) : nxD P n D k a j = D a j := by
  unfold nxD
  split
  · exact hr_o h
  · split
    · exact cset_ne h2
    · split
      · exact cset_ne (fun z => h z.1)
      · split
        · exact cset_ne (fun z => h z.1)
        · exact cset_ne (fun z => h z.1)
theorem aD_o {P : Nat → Nat} {n a j : Nat} {D0 : Cp} (h : a ≠ 2) (h2 : ¬ (a = 0 ∧ j = 1)) : ∀ k, aD P n D0 k a j = D0 a j
  | 0 => rfl
  | k + 1 => (nx_o h h2).trans (aD_o h h2 k)
theorem BC_aD {P : Nat → Nat} {n m : Nat} {D0 : Cp} (hn : n ≤ 7) (b : BC D0) (h : ∀ k, k < m → vld P n k) : ∀ k, k ≤ m → BC (aD P n D0 k)
  | 0, _ => b
  | k + 1, hk => BC_nx hn (h k (by omega)) (BC_aD hn b h k (by omega))
theorem aH_le (P : Nat → Nat) (n : Nat) : ∀ k, aH P n k ≤ k
  | 0 => Nat.le_refl _
  | k + 1 => by have := aH_le P n k; unfold aH; split <;> omega
theorem WCk {C : Cp} {e : Nat} : ∀ i, WC C i 2 (e * 5 + 4) = C 2 (e * 5 + 4)
  | 0 => rfl
  | i + 1 => by
    have ih := WCk (C := C) (e := e) i
    show wst (WC C i) i 2 (e * 5 + 4) = _
    unfold wst
    split
    · split
      · split
        · rw [cset_ne (by omega)]; exact ih
        · exact ih
      · exact ih
    · exact ih
theorem aT_inv {P : Nat → Nat} {n m : Nat} {D0 : Cp} (hn : n ≤ 7) (h : ∀ k, k < m → vld P n k) : ∀ k, k ≤ m → (∀ j, j < k → why P n (aD P n D0 j) j = 0) → ∀ e, aD P n D0 k 2 (e * 5 + 4) ≠ 1 → aT P n D0 k e = (-6)
  | 0, _, _, e, he => by
    show (if D0 2 (e * 5 + 4) = 1 then nI 0 else (-6)) = (-6)
    exact if_neg he
  | k + 1, hk, hw, e, he => by
    have ih := aT_inv (D0 := D0) hn h k (by omega) (fun j hj => hw j (by omega)) e
    have u : aT P n D0 (k + 1) e = if kd P n k = 0 then (if (hbC (aD P n D0 k)).testBit e = true then nI (aH P n k + 1) else aT P n D0 k e) else if kd P n k = 4 ∧ e = eg P n k then nI 0 else aT P n D0 k e := rfl
    have v : aD P n D0 (k + 1) = nxD P n (aD P n D0 k) k := rfl
    have hk4 := kd_le P n k
    rw [v] at he
    unfold nxD at he
    rw [u]
    by_cases c0 : kd P n k = 0
    · rw [if_pos c0] at he ⊢
      unfold hrC at he
      rw [HC_k, WCk] at he
      by_cases cb : (hbC (aD P n D0 k)).testBit e = true
      · rw [if_pos cb] at he; exact absurd rfl he
      · rw [if_neg cb] at he; rw [if_neg cb]; exact ih he
    · rw [if_neg c0] at he ⊢
      by_cases c1 : kd P n k = 1
      · rw [if_pos c1, cset_ne (by omega)] at he
        rw [if_neg (by omega)]; exact ih he
      · rw [if_neg c1] at he
        by_cases c2 : kd P n k = 2
        · rw [if_pos c2, cset_ne (by omega)] at he
          rw [if_neg (by omega)]; exact ih he
        · rw [if_neg c2] at he
          by_cases c3 : kd P n k = 3
          · rw [if_pos c3] at he
            rw [if_neg (by omega)]
            by_cases ce : e = eg P n k
            · have w := hw k (by omega)
              unfold why at w
              rw [if_neg (by omega)] at w
              refine ih (fun z => ?_)
              rw [← ce, if_pos z] at w; omega
            · rw [cset_ne (by omega)] at he; exact ih he
          · rw [if_neg c3] at he
            have c4 : kd P n k = 4 := by omega
            by_cases ce : e = eg P n k
            · rw [← ce, cset_eq] at he; exact absurd rfl he
            · rw [cset_ne (by omega)] at he
              rw [if_neg (fun z => ce z.2)]; exact ih he
/-! the class: a week is run -/
def SX (P : Nat → Nat) (n : Nat) (D0 : Cp) (σ : Hp) (k w : Nat) (s : Hp) : Prop := RC s 34 (aD P n D0 k) ∧ s 33 2 = nI k ∧ s 33 3 = nI (aH P n k) ∧ s 33 4 = nI (aN P n D0 k) ∧ s 33 5 = nI w ∧ (∀ e, e < 7 → s 37 e = aT P n D0 k e) ∧ ∀ a, a < 33 → s a = σ a
theorem spend_e {s : Hp} {N h c : Nat} {D : Cp} (r : RC s 34 D) (b : BC D) (hN : 7 < N) (h3 : s 33 3 = nI h) (h4 : s 33 4 = nI c) : ∃ s', t_X5_spendHour N s = some s' ∧ RC s' 34 (hrC D) ∧ s' 33 3 = nI (h + 1) ∧ s' 33 4 = nI (c + pop7 (hbC D)) ∧ s' 33 2 = s 33 2 ∧ s' 33 5 = s 33 5 ∧ (∀ e, e < 7 → s' 37 e = if (hbC D).testBit e = true then nI (h + 1) else s 37 e) ∧ ∀ a, a < 33 → s' a = s a := by
  have hlt := hbC_lt b
  obtain ⟨s1, e1, r1, f1⟩ := hourX_e (N := N) (σ := hset s 33 3 (nI (h + 1))) (o := 34) (C := D) (RC_f r (fun a _ _ => by simp (disch := omega) only [hs_o, hs_k])) b hN
  obtain ⟨x, hx⟩ : ∃ x, hbC D = x := ⟨_, rfl⟩
  rw [hx] at e1 hlt
  have s133 : s1 33 = (hset s 33 3 (nI (h + 1))) 33 := f1 33 (by omega)
  have q3 : s1 33 3 = nI (h + 1) := by rw [s133, hs_eq]
  have q4 : s1 33 4 = nI c := by rw [s133, hs_k (by decide)]; exact h4
  have key : ∃ s', t_X5_spendHour_33 N N (nI x) 0 (hset s1 33 4 (nI (c + pop7 x))) = some s' ∧ ((∀ e, e < 7 → s' 37 e = if x.testBit e = true then nI (h + 1) else s1 37 e) ∧ ∀ a, a ≠ 37 → s' a = hset s1 33 4 (nI (c + pop7 x)) a) := by
    unfold t_X5_spendHour_33
    refine li3 _ (fun i v1 v2 t => v1 = nI x ∧ v2 = nI i ∧ (∀ e, e < 7 → t 37 e = if e < i ∧ x.testBit e = true then nI (h + 1) else s1 37 e) ∧ ∀ a, a ≠ 37 → t a = hset s1 33 4 (nI (c + pop7 x)) a) _ 7 ?_ ?_ N _ _ _ hN ⟨rfl, rfl, fun e he => by rw [if_neg (fun z => by omega)]; simp (disch := omega) only [hs_o, hs_k], fun _ _ => rfl⟩
    · intro i v1 v2 t hi ⟨a1, a2, a3, a4⟩
      subst a1; subst a2
      have t3 : t 33 3 = nI (h + 1) := by rw [a4 33 (by decide), hs_k (by decide)]; exact q3
      refine Or.inr ⟨nI x, nI (i + 1), if x.testBit i = true then hset t 37 i (nI (h + 1)) else t, ⟨rfl, rfl, fun e he => ?_, fun a ha => ?_⟩, fun k => ?_⟩
      · by_cases cb : x.testBit i = true
        · rw [if_pos cb]
          by_cases ce : e = i
          · subst ce; rw [hs_eq, if_pos ⟨by omega, cb⟩]
          · rw [hs_k ce, a3 e he]
            by_cases cc : e < i ∧ x.testBit e = true
            · rw [if_pos cc, if_pos ⟨by omega, cc.2⟩]
            · rw [if_neg cc, if_neg (fun z => cc ⟨by omega, z.2⟩)]
        · rw [if_neg cb, a3 e he]
          by_cases cc : e < i ∧ x.testBit e = true
          · rw [if_pos cc, if_pos ⟨by omega, cc.2⟩]
          · rw [if_neg cc, if_neg (fun z => cc ⟨by
              have : ¬ e = i := fun w => cb (by rw [← w]; exact z.2)
              omega, z.2⟩)]
      · split
        · rw [hs_o ha]; exact a4 a ha
        · exact a4 a ha
      · show (if (7 : Int32) ≤ nI i then _ else _) = _
        unfold t_X5_spendHour_59
        rw [if_neg (show ¬ (7 : Int32) ≤ nI i from nI_ge (a := i) (b := 7) hi (by omega)), hasBit_7 hlt hi, bind_s, if_ne, put_in hi (by omega), bind_s, bnd_e, bnd_e, t3, nI_1]
        split <;> rfl
    · intro v1 v2 t ⟨a1, a2, a3, a4⟩
      subst a2
      refine ⟨t, ⟨fun e he => ?_, a4⟩, fun k => if_pos (by decide)⟩
      rw [a3 e he]
      by_cases cc : x.testBit e = true
      · rw [if_pos cc, if_pos ⟨he, cc⟩]
      · rw [if_neg cc, if_neg (fun z => cc z.2)]
  obtain ⟨s', k1, k2, k3⟩ := key
  refine ⟨s', ?_, ?_, ?_, ?_, ?_, ?_, fun e he => ?_, fun a ha => ?_⟩
  · unfold t_X5_spendHour
    rw [bnd_e, h3, nI_1, e1, b2_s, bitCount_e _ hlt, bind_s, bnd_e, q4, nI_add]; exact k1
  · exact RC_f r1 (fun a _ _ => by rw [k3 a (by omega)]; simp (disch := omega) only [hs_o, hs_k])
  · rw [k3 33 (by decide), hs_k (by decide)]; exact q3
  · rw [k3 33 (by decide), hs_eq, hx]
  · rw [k3 33 (by decide), hs_k (by decide), s133, hs_k (by decide)]
  · rw [k3 33 (by decide), hs_k (by decide), s133, hs_k (by decide)]
  · rw [k2 e he, hx, f1 37 (by decide), hs_o (by decide)]
  · rw [k3 a (by omega), hs_o (by omega), f1 a (by omega), hs_o (by omega)]
def rnF (N : Nat) (k23 : Int32 → Hp → Option (Int32 × Hp)) (v3 : Int32) (σ : Hp) : Option (Int32 × Hp) := if (σ 31 0) ≤ v3 then t_X5_run_126 N σ else if (σ 33 5) = 0 then Option.bind (t_X3_sign v3 σ) (fun r3 : Int32 => if r3 = 46 then Option.bind (t_X5_spendHour N σ) (fun σ11 : Hp => t_X5_run_103 N k23 v3 σ11) else Option.bind (t_X6_isHouseSign r3) (fun r4 : Int32 => if r4 = 0 then bnd (v3 + 1) (fun x5 : Int32 => Option.bind (t_X3_sign x5 σ) (fun r6 : Int32 => b2 (t_X5_handle (r3 - 48) r6 σ) (fun (r7 : Int32) (σ8 : Hp) => bnd (hset σ8 33 5 r7) (fun σ9 : Hp => t_X5_run_103 N k23 x5 σ9)))) else Option.bind (t_X0_turnStove 34 (r3 - 65) σ) (fun σ10 : Hp => t_X5_run_103 N k23 v3 σ10))) else t_X5_run_126 N σ
theorem handle_e {P : Nat → Nat} {n k : Nat} {s : Hp} {D : Cp} (r : RC s 34 D) (b : BC D) (hn : n ≤ 7) (he : eg P n k < n) (h5 : (kd P n k = 2 ∧ P (ps P n k + 1) = ahs P n k + 65 ∧ ahs P n k < 6) ∨ (kd P n k = 3 ∧ P (ps P n k + 1) = 33) ∨ (kd P n k = 4 ∧ P (ps P n k + 1) = 43)) : t_X5_handle (nI (eg P n k)) (nI (P (ps P n k + 1))) s = some (nI (why P n D k), if why P n D k = 0 then (if kd P n k = 2 then hset s 36 (eg P n k * 5 + 3) (nI (ahs P n k)) else if kd P n k = 3 then hset s 36 (eg P n k * 5 + 4) (nI 2) else hset (hset s 36 (eg P n k * 5 + 4) (nI 1)) 37 (eg P n k) (nI 0)) else s) := by
  obtain ⟨e, hee⟩ : ∃ e, eg P n k = e := ⟨_, rfl⟩
  obtain ⟨y, hyy⟩ : ∃ y, P (ps P n k + 1) = y := ⟨_, rfl⟩
  unfold why
  rw [hee] at he ⊢
  rw [hyy] at h5 ⊢
  have he7 : e < 7 := by omega
  obtain ⟨k0, k1, k2, k3, k4⟩ := b.2.2.2.2.2 e he7
  have hy : y < 2 ^ 31 := by omega
  unfold t_X5_handle t_X5_handle_30 t_X5_handle_42
  rw [show (4 : Int32) = nI 4 from rfl, show (3 : Int32) = nI 3 from rfl, show (43 : Int32) = nI 43 from rfl, show (33 : Int32) = nI 33 from rfl, show (65 : Int32) = nI 65 from rfl, fact_in he7 (by omega), bind_s, r.2.2.2 _ (by omega), setFact_in he7 (by omega), setFact_in he7 (by omega), setFact_in he7 (by omega), bind_s, bind_s, bind_s, put_in he7 (by omega), bind_s]
  show (if nI (D 2 (e * 5 + 4)) = nI 1 then _ else if nI (D 2 (e * 5 + 4)) = nI 2 then _ else if nI (D 2 (e * 5 + 4)) = nI 0 then _ else _) = _
  simp only [eq_nI (a := D 2 (e * 5 + 4)) (b := 1) (by omega) (by omega), eq_nI (a := D 2 (e * 5 + 4)) (b := 2) (by omega) (by omega), eq_nI (a := D 2 (e * 5 + 4)) (b := 0) (by omega) (by omega), eq_nI (a := y) (b := 43) hy (by omega), eq_nI (a := y) (b := 33) hy (by omega)]
  rcases h5 with ⟨q1, q2, q3⟩ | ⟨q1, q2⟩ | ⟨q1, q2⟩
  · have n43 : ¬ y = 43 := by omega
    have n33 : ¬ y = 33 := by omega
    have ha : nI y - nI 65 = nI (ahs P n k) := by rw [pk_sub (by omega)]; congr 1; omega
    rw [q1]
    rcases (show D 2 (e * 5 + 4) = 0 ∨ D 2 (e * 5 + 4) = 1 ∨ D 2 (e * 5 + 4) = 2 by omega) with c | c | c
    · simp [c, n43, n33, ha]; rfl
    · simp [c]; rfl
    · simp [c, n43]; rfl
  · rw [q1, q2]
    rcases (show D 2 (e * 5 + 4) = 0 ∨ D 2 (e * 5 + 4) = 1 ∨ D 2 (e * 5 + 4) = 2 by omega) with c | c | c
    · simp [c] <;> first | rfl | exact ⟨rfl, rfl⟩
    · simp [c] <;> first | rfl | exact ⟨rfl, rfl⟩
    · simp [c] <;> first | rfl | exact ⟨rfl, rfl⟩
  · rw [q1, q2]
    rcases (show D 2 (e * 5 + 4) = 0 ∨ D 2 (e * 5 + 4) = 1 ∨ D 2 (e * 5 + 4) = 2 by omega) with c | c | c
    · simp [c] <;> first | rfl | exact ⟨rfl, rfl⟩
    · simp [c] <;> first | rfl | exact ⟨rfl, rfl⟩
    · simp [c] <;> first | rfl | exact ⟨rfl, rfl⟩
theorem rstep_ok {P : Nat → Nat} {n pn m i N : Nat} {D0 : Cp} {σ s : Hp} (px : PadX σ pn P) (b0 : BC D0) (hn : n ≤ 7) (hN : 7 < N) (hv : ∀ k, k < m → vld P n k) (hm : ps P n m = pn) (hi : i < m) (hw : why P n (aD P n D0 i) i = 0) (h : SX P n D0 σ i 0 s) : ∃ s', SX P n D0 σ (i + 1) 0 s' ∧ ∀ k, rnF N k (nI (ps P n i)) s = k (nI (ps P n (i + 1))) s' := by
  obtain ⟨h1, h2, h3, h4, h5, h6, h7⟩ := h
  have hp := px.2.1
  have bD := BC_aD hn b0 hv i (by omega)
  have hlt := ps_lt hm hi
  have pxs : PadX s pn P := by unfold PadX; rw [h7 31 (by omega), h7 32 (by omega)]; exact px
  have uD : aD P n D0 (i + 1) = nxD P n (aD P n D0 i) i := rfl
  have uH : aH P n (i + 1) = aH P n i + if kd P n i = 0 then 1 else 0 := rfl
  have uN : aN P n D0 (i + 1) = aN P n D0 i + if kd P n i = 0 then pop7 (hbC (aD P n D0 i)) else 0 := rfl
  have uT : ∀ e, aT P n D0 (i + 1) e = if kd P n i = 0 then (if (hbC (aD P n D0 i)).testBit e = true then nI (aH P n i + 1) else aT P n D0 i e) else if kd P n i = 4 ∧ e = eg P n i then nI 0 else aT P n D0 i e := fun _ => rfl
  rcases act_cs hn (hv i hi) with ⟨c1, c2, c3⟩ | ⟨c1, c2, c3, c4⟩ | ⟨c1, c2, c3, c4, c5⟩
  · obtain ⟨s1, e1, r1, g3, g4, g2, g5, g6, g7⟩ := spend_e (N := N) h1 bD hN h3 h4
    refine ⟨hset s1 33 2 (nI (i + 1)), ⟨?_, hs_eq, ?_, ?_, ?_, fun e he => ?_, fun a ha => ?_⟩, fun k => ?_⟩
    · rw [uD]; unfold nxD; rw [if_pos c1]; exact RC_f r1 (fun a _ _ => by simp (disch := omega) only [hs_o, hs_k])
    · rw [hs_k (by decide), uH, if_pos c1]; exact g3
    · rw [hs_k (by decide), uN, if_pos c1]; exact g4
    · rw [hs_k (by decide), g5]; exact h5
    · rw [hs_o (by decide), g6 e he, uT, if_pos c1, h6 e he]
    · rw [hs_o (by omega), g7 a ha]; exact h7 a ha
    · unfold rnF t_X5_run_103 t_X5_run_120
      rw [pxs.1, if_neg (nI_ge (by omega) (by omega)), h5, if_pos (show nI 0 = (0 : Int32) from rfl), sign_e pxs (by omega), bind_s, c2, if_pos (show nI 46 = (46 : Int32) from rfl), e1, bind_s, g5, h5, if_pos (show nI 0 = (0 : Int32) from rfl), g2, h2, bnd_e, bnd_e, nI_1, nI_1, c3]
  · have hx := xr6 _ bD.2.1 _ c3
    have hk0 : ¬ kd P n i = 0 := by omega
    refine ⟨hset (hset s 34 1 (nI (aD P n D0 i 0 1 ^^^ 2 ^ ahs P n i))) 33 2 (nI (i + 1)), ⟨?_, hs_eq, ?_, ?_, ?_, fun e he => ?_, fun a ha => ?_⟩, fun k => ?_⟩
    · rw [uD]; unfold nxD; rw [if_neg hk0, if_pos c1]; exact RC_f (RC_st h1 _) (fun a _ _ => by simp (disch := omega) only [hs_o, hs_k])
    · rw [hs_k (by decide), hs_o (by decide), uH, if_neg hk0]; exact h3
    · rw [hs_k (by decide), hs_o (by decide), uN, if_neg hk0]; exact h4
    · rw [hs_k (by decide), hs_o (by decide)]; exact h5
    · rw [hs_o (by decide), hs_o (by decide), uT, if_neg hk0, if_neg (fun z => by omega)]; exact h6 e he
    · rw [hs_o (by omega), hs_o (by omega)]; exact h7 a ha
    · have hh : hsg (ahs P n i + 65) = true := by unfold hsg; simp; omega
      unfold rnF t_X5_run_103 t_X5_run_120
      rw [pxs.1, if_neg (nI_ge (by omega) (by omega)), h5, if_pos (show nI 0 = (0 : Int32) from rfl), sign_e pxs (by omega), bind_s, c2, show (46 : Int32) = nI 46 from rfl, eq_nI (by omega) (by omega), if_neg (by omega), hsg_w _ (by omega), hh, bind_s, if_neg (show ¬ bI true = 0 by decide), show (65 : Int32) = nI 65 from rfl, pk_sub (by omega), show ahs P n i + 65 - 65 = ahs P n i by omega, turnStove_e, h1.2.1, (pw6 _ c3).2, hx.1, bind_s, hs_o (by decide), h5, if_pos (show nI 0 = (0 : Int32) from rfl), h2, bnd_e, bnd_e, nI_1, nI_1, c4]
  · have hk0 : ¬ kd P n i = 0 := by omega
    have hk1 : ¬ kd P n i = 1 := by omega
    have hpx := (pxs.2.2 (ps P n i + 1) (by omega)).2
    have hd := handle_e h1 bD hn c3 c5
    rw [hw, if_pos (rfl : (0 : Nat) = 0)] at hd
    obtain ⟨s1, hs1⟩ : ∃ s1, s1 = (if kd P n i = 2 then hset s 36 (eg P n i * 5 + 3) (nI (ahs P n i)) else if kd P n i = 3 then hset s 36 (eg P n i * 5 + 4) (nI 2) else hset (hset s 36 (eg P n i * 5 + 4) (nI 1)) 37 (eg P n i) (nI 0)) := ⟨_, rfl⟩
    rw [← hs1] at hd
    have s33 : s1 33 = s 33 := by
      rw [hs1]; split
      · simp (disch := omega) only [hs_o, hs_k]
      · split
        · simp (disch := omega) only [hs_o, hs_k]
        · simp (disch := omega) only [hs_o, hs_k]
    have s1a : ∀ a, a < 33 → s1 a = s a := fun a ha => by
      rw [hs1]; split
      · simp (disch := omega) only [hs_o, hs_k]
      · split
        · simp (disch := omega) only [hs_o, hs_k]
        · simp (disch := omega) only [hs_o, hs_k]
    refine ⟨hset (hset s1 33 5 (nI 0)) 33 2 (nI (i + 1)), ⟨?_, hs_eq, ?_, ?_, ?_, fun e he => ?_, fun a ha => ?_⟩, fun k => ?_⟩
    · rw [uD]; unfold nxD; rw [if_neg hk0, if_neg hk1]
      refine RC_f (σ := s1) ?_ (fun a _ _ => by simp (disch := omega) only [hs_o, hs_k])
      rw [hs1]
      by_cases q2 : kd P n i = 2
      · rw [if_pos q2, if_pos q2]; exact RC_fact h1
      · rw [if_neg q2, if_neg q2]
        by_cases q3 : kd P n i = 3
        · rw [if_pos q3, if_pos q3]; exact RC_fact h1
        · rw [if_neg q3, if_neg q3]; exact RC_f (RC_fact h1) (fun a _ _ => by simp (disch := omega) only [hs_o, hs_k])
    · rw [hs_k (by decide), hs_k (by decide), s33, uH, if_neg hk0]; exact h3
    · rw [hs_k (by decide), hs_k (by decide), s33, uN, if_neg hk0]; exact h4
    · rw [hs_k (by decide), hs_eq]
    · rw [hs_o (by decide), hs_o (by decide), uT, if_neg hk0, hs1]
      have hk4 := kd_le P n i
      by_cases q2 : kd P n i = 2
      · rw [if_pos q2, if_neg (fun z => by omega), hs_o (by decide)]; exact h6 e he
      · rw [if_neg q2]
        by_cases q3 : kd P n i = 3
        · rw [if_pos q3, if_neg (fun z => by omega), hs_o (by decide)]; exact h6 e he
        · rw [if_neg q3]
          by_cases qe : e = eg P n i
          · rw [if_pos ⟨by omega, qe⟩, qe, hs_eq]
          · rw [if_neg (fun z => qe z.2), hs_k qe, hs_o (by decide)]; exact h6 e he
    · rw [hs_o (by omega), hs_o (by omega), s1a a ha]; exact h7 a ha
    · have hh : hsg (eg P n i + 48) = false := by unfold hsg; simp; omega
      unfold rnF t_X5_run_103 t_X5_run_120
      rw [pxs.1, if_neg (nI_ge (by omega) (by omega)), h5, if_pos (show nI 0 = (0 : Int32) from rfl), sign_e pxs (by omega), bind_s, c2, show (46 : Int32) = nI 46 from rfl, eq_nI (by omega) (by omega), if_neg (by omega), hsg_w _ (by omega), hh, bind_s, if_pos (show bI false = 0 from rfl), bnd_e, nI_1, sign_e pxs (by omega), bind_s, show (48 : Int32) = nI 48 from rfl, pk_sub (by omega), show eg P n i + 48 - 48 = eg P n i by omega, hd, b2_s, bnd_e, hs_eq, if_pos (show nI 0 = (0 : Int32) from rfl), hs_k (by decide), s33, h2, bnd_e, bnd_e, nI_1, nI_1, c4]
theorem rstep_no {P : Nat → Nat} {n pn m i N : Nat} {D0 : Cp} {σ s : Hp} (px : PadX σ pn P) (b0 : BC D0) (hn : n ≤ 7) (hv : ∀ k, k < m → vld P n k) (hm : ps P n m = pn) (hi : i < m) (hw : why P n (aD P n D0 i) i ≠ 0) (h : SX P n D0 σ i 0 s) : SX P n D0 σ i (why P n (aD P n D0 i) i) (hset s 33 5 (nI (why P n (aD P n D0 i) i))) ∧ ∀ k, rnF N k (nI (ps P n i)) s = k (nI (ps P n (i + 1))) (hset s 33 5 (nI (why P n (aD P n D0 i) i))) := by
  obtain ⟨h1, h2, h3, h4, h5, h6, h7⟩ := h
  have hp := px.2.1
  have bD := BC_aD hn b0 hv i (by omega)
  have hlt := ps_lt hm hi
  have pxs : PadX s pn P := by unfold PadX; rw [h7 31 (by omega), h7 32 (by omega)]; exact px
  refine ⟨⟨RC_f h1 (fun a _ _ => by simp (disch := omega) only [hs_o, hs_k]), by rw [hs_k (by decide)]; exact h2, by rw [hs_k (by decide)]; exact h3, by rw [hs_k (by decide)]; exact h4, hs_eq, fun e he => by rw [hs_o (by decide)]; exact h6 e he, fun a ha => by rw [hs_o (by omega)]; exact h7 a ha⟩, fun k => ?_⟩
  have c1 : 2 ≤ kd P n i := by
    rcases Nat.lt_or_ge (kd P n i) 2 with z | z
    · exfalso; apply hw; unfold why; rw [if_pos z]
    · exact z
  rcases act_cs hn (hv i hi) with ⟨c1', _⟩ | ⟨c1', _⟩ | ⟨_, c2, c3, c4, c5⟩
  · omega
  · omega
  · have hd := handle_e h1 bD hn c3 c5
    rw [if_neg hw] at hd
    have hwl : why P n (aD P n D0 i) i ≤ 3 := by
      unfold why; split
      · omega
      · split
        · omega
        · split
          · split <;> omega
          · split <;> omega
    have hh : hsg (eg P n i + 48) = false := by unfold hsg; simp; omega
    unfold rnF t_X5_run_103 t_X5_run_120
    rw [pxs.1, if_neg (nI_ge (by omega) (by omega)), h5, if_pos (show nI 0 = (0 : Int32) from rfl), sign_e pxs (by omega), bind_s, c2, show (46 : Int32) = nI 46 from rfl, eq_nI (by omega) (by omega), if_neg (by omega), hsg_w _ (by omega), hh, bind_s, if_pos (show bI false = 0 from rfl), bnd_e, nI_1, sign_e pxs (by omega), bind_s, show (48 : Int32) = nI 48 from rfl, pk_sub (by omega), show eg P n i + 48 - 48 = eg P n i by omega, hd, b2_s, bnd_e, hs_eq, show (0 : Int32) = nI 0 from rfl, eq_nI (by omega) (by omega), if_neg hw, bnd_e, nI_1, c4]
theorem startFrom_e {σ : Hp} {N n : Nat} {P : Nat → Nat} {D0 : Cp} (r : RC σ 2 D0) (b : BC D0) (hN : 35 < N) : ∃ s, t_X5_startFrom N σ = some s ∧ SX P n D0 σ 0 0 s := by
  obtain ⟨s1, e1, f1, g1, c1⟩ := coopCopy_e (σ := σ) (N := N) (o := 34) (o2 := 2) hN (by omega)
  unfold t_X5_startFrom t_X5_startFrom_30
  rw [e1, bind_s, bnd_e, bnd_e, bnd_e, bnd_e]
  refine li2 _ (fun i (v : Int32) (s : Hp) => v = nI i ∧ RC s 34 D0 ∧ s 33 2 = nI 0 ∧ s 33 3 = nI 0 ∧ s 33 4 = nI 0 ∧ s 33 5 = nI 0 ∧ (∀ e, e < i → s 37 e = aT P n D0 0 e) ∧ ∀ a, a < 33 → s a = σ a) (fun (s : Hp) => SX P n D0 σ 0 0 s) 7 ?_ ?_ N 0 _ (by omega) ⟨rfl, RC_f (c1 D0 r) (fun a _ _ => by simp (disch := omega) only [hs_o, hs_k]), by simp (disch := omega) only [hs_o, hs_k]; exact hs_eq, by simp (disch := omega) only [hs_o, hs_k]; exact hs_eq, by simp (disch := omega) only [hs_o, hs_k]; exact hs_eq, hs_eq, fun e he => absurd he (Nat.not_lt_zero e), fun a ha => by simp (disch := omega) only [hs_o, hs_k]; exact f1 a (by omega) (by omega) (by omega)⟩
  · intro i v s hi ⟨a1, a2, a3, a4, a5, a6, a7, a8⟩
    subst a1
    obtain ⟨k0, k1, k2, k3, k4⟩ := b.2.2.2.2.2 i hi
    refine Or.inr ⟨nI (i + 1), hset s 37 i (aT P n D0 0 i), ⟨rfl, RC_f a2 (fun a _ _ => by simp (disch := omega) only [hs_o, hs_k]), by simp (disch := omega) only [hs_o, hs_k]; exact a3, by simp (disch := omega) only [hs_o, hs_k]; exact a4, by simp (disch := omega) only [hs_o, hs_k]; exact a5, by simp (disch := omega) only [hs_o, hs_k]; exact a6, fun e he => ?_, fun a ha => by rw [hs_o (by omega)]; exact a8 a ha⟩, fun k => ?_⟩
    · by_cases c : e = i
      · subst c; rw [hs_eq]
      · rw [hs_k c]; exact a7 e (by omega)
    · show (if (7 : Int32) ≤ nI i then _ else _) = _
      unfold t_X5_startFrom_60
      rw [if_neg (show ¬ (7 : Int32) ≤ nI i from nI_ge (a := i) (b := 7) hi (by omega)), show (4 : Int32) = nI 4 from rfl, fact_in hi (by omega), bind_s, a2.2.2.2 _ (by omega), show (1 : Int32) = nI 1 from rfl, eq_nI (by omega) (by omega), put_in hi (by omega), bind_s, put_in hi (by omega), bind_s, bnd_e, bnd_e, nI_add]
      show _ = k _ (hset s 37 i (if D0 2 (i * 5 + 4) = 1 then nI 0 else (-6)))
      split <;> rfl
  · intro v s ⟨a1, a2, a3, a4, a5, a6, a7, a8⟩
    subst a1
    exact ⟨s, ⟨a2, a3, a4, a5, a6, a7, a8⟩, fun k => if_pos (by decide)⟩
/-- where the acts stop -/
def stopAt (P : Nat → Nat) (n : Nat) (D0 : Cp) (m q : Nat) : Prop := q ≤ m ∧ (∀ j, j < q → why P n (aD P n D0 j) j = 0) ∧ (q < m → why P n (aD P n D0 q) q ≠ 0)
theorem stop_ex (P : Nat → Nat) (n : Nat) (D0 : Cp) : ∀ m, ∃ q, stopAt P n D0 m q
  | 0 => ⟨0, Nat.le_refl _, fun j hj => absurd hj (Nat.not_lt_zero j), fun h => absurd h (Nat.lt_irrefl _)⟩
  | m + 1 => by
    obtain ⟨q, h1, h2, h3⟩ := stop_ex P n D0 m
    by_cases hq : q < m
    · exact ⟨q, by omega, h2, fun _ => h3 hq⟩
    · have e : q = m := by omega
      by_cases hw : why P n (aD P n D0 q) q = 0
      · refine ⟨q + 1, by omega, fun j hj => ?_, fun h => by omega⟩
        rcases (show j = q ∨ j < q by omega) with rfl | hj2
        · exact hw
        · exact h2 j hj2
      · exact ⟨q, by omega, h2, fun _ => hw⟩
def wyQ (P : Nat → Nat) (n : Nat) (D0 : Cp) (m q : Nat) : Nat := if q < m then why P n (aD P n D0 q) q else 0
theorem why_le (P : Nat → Nat) (n : Nat) (D : Cp) (k : Nat) : why P n D k ≤ 3 := by
  unfold why; split
  · omega
  · split
    · omega
    · split
      · split <;> omega
      · split <;> omega
theorem runX_e {P : Nat → Nat} {n pn m q N : Nat} {D0 : Cp} {σ : Hp} (px : PadX σ pn P) (r : RC σ 2 D0) (b0 : BC D0) (hn : D0 0 0 = n) (hN : 60 < N) (hv : ∀ k, k < m → vld P n k) (hm : ps P n m = pn) (hq : stopAt P n D0 m q) (hw : wF P n pn pn 0 false = (-6)) : ∃ σ', t_X5_run N σ = some (if q < m then (-3) else 0, σ') ∧ SX P n D0 σ q (wyQ P n D0 m q) σ' := by
  have hb := b0.1
  have hp := px.2.1
  have hn7 : n ≤ 7 := by omega
  have hml : m ≤ pn := by have := ps_mono P n 0 m; rw [Nat.zero_add] at this; omega
  obtain ⟨h1, h2, h3⟩ := hq
  obtain ⟨s0, e0, x0⟩ := startFrom_e (N := N) (n := n) (P := P) r b0 (by omega)
  have fin : ∀ s, SX P n D0 σ q (wyQ P n D0 m q) s → t_X5_run_126 N s = some (if q < m then (-3) else 0, s) := fun s h => by
    unfold t_X5_run_126
    have hwl := why_le P n (aD P n D0 q) q
    rw [h.2.2.2.2.1, show (0 : Int32) = nI 0 from rfl, eq_nI (by unfold wyQ; split <;> omega) (by omega)]
    unfold wyQ
    by_cases c : q < m
    · rw [if_pos c, if_neg (h3 c), if_pos c]
    · rw [if_neg c, if_pos rfl, if_neg c]
  have key : ∃ z : Int32 × Hp, t_X5_run_23 N N 0 s0 = some z ∧ (z.1 = (if q < m then (-3) else 0) ∧ SX P n D0 σ q (wyQ P n D0 m q) z.2) := by
    unfold t_X5_run_23
    refine li2 _ (fun i v s => (i ≤ q ∧ v = nI (ps P n i) ∧ SX P n D0 σ i 0 s) ∨ (q < i ∧ ∃ j, v = nI j ∧ SX P n D0 σ q (wyQ P n D0 m q) s)) _ m ?_ ?_ N 0 s0 (by omega) (Or.inl ⟨Nat.zero_le _, rfl, x0⟩)
    · intro i v s hi hI
      rcases hI with ⟨a1, a2, a3⟩ | ⟨a1, j, a2, a3⟩
      · subst a2
        by_cases c : i < q
        · obtain ⟨s', x', k'⟩ := rstep_ok (N := N) px b0 hn7 (by omega) hv hm hi (h2 i c) a3
          exact Or.inr ⟨nI (ps P n (i + 1)), s', Or.inl ⟨by omega, rfl, x'⟩, k'⟩
        · have e : i = q := by omega
          subst e
          obtain ⟨x', k'⟩ := rstep_no (N := N) px b0 hn7 hv hm hi (h3 hi) a3
          exact Or.inr ⟨nI (ps P n (i + 1)), _, Or.inr ⟨by omega, _, rfl, by unfold wyQ; rw [if_pos hi]; exact x'⟩, k'⟩
      · refine Or.inl ⟨(if q < m then (-3) else 0, s), ⟨rfl, a3⟩, fun k => ?_⟩
        have hwl := why_le P n (aD P n D0 q) q
        have hf := fin s a3
        have w5 : ¬ s 33 5 = 0 := by
          rw [a3.2.2.2.2.1]
          have : wyQ P n D0 m q ≠ 0 := by unfold wyQ; rw [if_pos (by omega)]; exact h3 (by omega)
          exact nI_ne0 (by omega) (by unfold wyQ at *; split <;> omega)
        show (if s 31 0 ≤ v then t_X5_run_126 N s else if s 33 5 = 0 then _ else t_X5_run_126 N s) = _
        rw [if_neg w5, hf]; split <;> rfl
    · intro v s hI
      rcases hI with ⟨a1, a2, a3⟩ | ⟨a1, j, a2, a3⟩
      · have e : m = q := by omega
        subst a2
        subst e
        have hx : SX P n D0 σ m (wyQ P n D0 m m) s := by unfold wyQ; rw [if_neg (by omega)]; exact a3
        refine ⟨(if m < m then (-3) else 0, s), ⟨rfl, hx⟩, fun k => ?_⟩
        have pxs : PadX s pn P := by unfold PadX; rw [a3.2.2.2.2.2.2 31 (by omega), a3.2.2.2.2.2.2 32 (by omega)]; exact px
        show (if s 31 0 ≤ nI (ps P n m) then t_X5_run_126 N s else _) = _
        rw [pxs.1, hm, if_pos (nI_le (Nat.le_refl _) (by omega))]; exact fin s hx
      · refine ⟨(if q < m then (-3) else 0, s), ⟨rfl, a3⟩, fun k => ?_⟩
        have hwl := why_le P n (aD P n D0 q) q
        have hf := fin s a3
        have w5 : ¬ s 33 5 = 0 := by
          rw [a3.2.2.2.2.1]
          have : wyQ P n D0 m q ≠ 0 := by unfold wyQ; rw [if_pos (by omega)]; exact h3 (by omega)
          exact nI_ne0 (by omega) (by unfold wyQ at *; split <;> omega)
        show (if s 31 0 ≤ v then t_X5_run_126 N s else if s 33 5 = 0 then _ else t_X5_run_126 N s) = _
        rw [if_neg w5, hf]; split <;> rfl
  obtain ⟨⟨z, s⟩, q1, q2, q3⟩ := key
  refine ⟨s, ?_, q3⟩
  unfold t_X5_run
  rw [r.1, hn, weekX_e px hn7 hN, bind_s, hw, if_pos (rfl : (-6 : Int32) = -6), e0, bind_s, q1]
  exact congrArg (fun z => some (z, s)) q2
