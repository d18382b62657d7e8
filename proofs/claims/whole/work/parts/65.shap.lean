theorem rdy_mono {C : Cp} {h h' e : Nat} (hm : ∀ x, h.testBit x = true → h'.testBit x = true) (hr : rdy C h e = true) : rdy C h' e = true := by
  unfold rdy at *
  rw [Bool.or_eq_true] at *
  exact hr.imp id (hm _)
theorem gs_mono {C : Cp} {h h' : Nat} (hm : ∀ x, h.testBit x = true → h'.testBit x = true) : ∀ p, gs C h p = true → gs C h' p = true
  | 0, _ => rfl
  | p + 1, hg => by
    unfold gs at *
    rw [Bool.and_eq_true] at *
    refine ⟨gs_mono hm p hg.1, ?_⟩
    have := hg.2
    rw [Bool.or_eq_true] at *
    exact this.imp id (fun z => by rw [Bool.and_eq_true] at *; exact ⟨z.1, rdy_mono hm z.2⟩)
theorem psum_mono {C : Cp} {h h' w : Nat} (hm : ∀ x, h.testBit x = true → h'.testBit x = true) : ∀ p, psum C h w p ≤ psum C h' w p
  | 0 => Nat.le_refl _
  | p + 1 => by
    have ih := psum_mono (C := C) (w := w) hm p
    unfold psum
    by_cases h1 : ht C h p = true ∧ w.testBit (C 2 (C 1 p * 5 + 3)) = true
    · have h2 : ht C h' p = true := by
        have := h1.1
        unfold ht at *
        rw [Bool.and_eq_true] at *
        exact ⟨gs_mono hm _ this.1, this.2⟩
      rw [if_pos h1, if_pos ⟨h2, h1.2⟩]; omega
    · rw [if_neg h1]; omega
def wrt (C : Cp) (k : Nat) : Nat := psum C k 63 (C 0 0)
theorem wrt_le {C : Cp} (b : BC C) (k : Nat) : wrt C k ≤ 700 := psum_le b k 63 (Nat.le_refl _)
theorem wrt_mono {C : Cp} (k g : Nat) : wrt C k ≤ wrt C (k ||| 2 ^ g) := psum_mono (fun x hx => by rw [Nat.testBit_or, hx]; rfl) _
def fc : Nat → Nat
  | 0 => 1
  | n + 1 => (n + 1) * fc n
def rwN (p : Nat) : Nat := if p = 0 then 120 else if p = 1 then 24 else if p = 2 then 12 else if p = 3 then 12 else if p = 4 then 24 else 120
theorem rows_e {N p : Nat} (hN : 7 < N) (hp : p ≤ 5) : t_X7_rowsOf N (nI p) = some (nI (fc (p - 1 + 1))) := by
  unfold t_X7_rowsOf t_X7_rowsOf_4
  refine lr3 _ (fun _ => nI p) (fun i => nI (fc (i + 1))) (fun i => nI (i + 2)) (p - 1) _ ?_ ?_ N (by omega)
  · intro i hi k
    show (if nI p < nI (i + 2) then _ else _) = _
    rw [lt_nI (by omega) (by omega), if_neg (by omega), bnd_e, bnd_e, pk_mul, nI_1, Nat.mul_comm]; rfl
  · intro k
    show (if nI p < nI (p - 1 + 2) then _ else _) = _
    rw [lt_nI (by omega) (by omega), if_pos (by omega)]
theorem stat_e : ∀ p, p < 6 → t_stat_at (nI p) = some (nI (rwN p)) := by decide +kernel
theorem fcs : ∀ p, p < 6 → fc (p - 1 + 1) * fc (5 - p - 1 + 1) = rwN p ∧ rwN p ≤ 120 := by decide +kernel
theorem pop5 : ∀ k, k < 64 → ∀ g, g < 6 → k.testBit g = false → pop7 k ≤ 5 := by decide +kernel
def shS (C : Cp) (g : Nat) : Nat → Nat
  | 0 => 0
  | k + 1 => if k.testBit g = true then shS C g k else shS C g k + rwN (pop7 k) * (wrt C (k ||| 2 ^ g) - wrt C k)
theorem shS_le {C : Cp} (b : BC C) {g : Nat} (hg : g < 6) : ∀ k, k ≤ 64 → shS C g k ≤ 84000 * k
  | 0, _ => Nat.zero_le _
  | k + 1, hk => by
    have ih := shS_le b hg k (by omega)
    unfold shS
    split
    · omega
    · rename_i h
      have h1 := (fcs (pop7 k) (by have := pop5 k (by omega) g hg (by simpa using h); omega)).2
      have h2 := wrt_le b (k ||| 2 ^ g)
      have h3 : rwN (pop7 k) * (wrt C (k ||| 2 ^ g) - wrt C k) ≤ 120 * 700 := Nat.mul_le_mul h1 (by omega)
      omega
theorem or64 : ∀ k, k < 64 → ∀ g, g < 6 → (nI k ||| ((1 : Int32) <<< (nI g &&& 31))) = nI (k ||| 2 ^ g) ∧ (k ||| 2 ^ g) < 64 := or6
theorem worthX_e {σ : Hp} {N k : Nat} {C : Cp} (r : RC σ 2 C) (b : BC C) (hN : 7 < N) (hk : k < 64) : t_X6_worthIfHeated N (nI k) σ = some (nI (wrt C k)) := by
  unfold t_X6_worthIfHeated
  rw [hatchX_e r b hN (by omega), bind_s, show (63 : Int32) = nI 63 from rfl, worthOf_e r b hN (hbt_lt b k _ (Nat.le_refl _)) (by omega), bind_s, wp_eq b k 63 _ (Nat.le_refl _)]; rfl
theorem shX_e {σ : Hp} {N g w : Nat} {C : Cp} (r : RC σ 2 C) (b : BC C) (hN : 1000 < N) (hg : g < 6) (hw : w ≤ 1) : t_X6_shapley_31 N N (nI g) (nI w) 0 0 σ = some (lN (lowN (shS C g 64) 720 w)) := by
  unfold t_X6_shapley_31
  refine lr5 _ (fun _ => nI g) (fun _ => nI w) (fun k => lN (shS C g k)) (fun k => nI k) (fun _ => σ) 64 _ ?_ ?_ N (by omega)
  · intro k hk kk
    have hl := shS_le b hg k (by omega)
    unfold t_X6_shapley_89
    rw [if_neg (show ¬ (64 : Int32) ≤ nI k from nI_ge (a := k) (b := 64) hk (by omega)), hasBit_7 (by omega) (by omega), bind_s, if_ne]
    have u : shS C g (k + 1) = if k.testBit g = true then shS C g k else shS C g k + rwN (pop7 k) * (wrt C (k ||| 2 ^ g) - wrt C k) := rfl
    rw [u]
    by_cases hb : k.testBit g = true
    · rw [if_pos hb, if_pos hb, bnd_e, nI_1]
    · have hp := pop5 k hk g hg (by simpa using hb)
      have ho := or64 k hk g hg
      have w1 := wrt_le b (k ||| 2 ^ g)
      have w2 := wrt_mono (C := C) k g
      rw [if_neg hb, if_neg hb, bit_e, bind_s, ho.1, worthX_e r b (by omega) ho.2, bind_s, worthX_e r b (by omega) hk, bind_s, bnd_e, bitCount_e k (by omega), bind_s, stat_e _ (by omega), bind_s, bnd_e, bnd_e, pk_sub w2, nI_l (by have := (fcs (pop7 k) (by omega)).2; omega), nI_l (by omega), lN_mul, lN_add, nI_1]
  · intro kk
    have hl := shS_le b hg 64 (by omega)
    refine (if_pos (show (64 : Int32) ≤ nI 64 by decide)).trans ?_
    rw [show (720 : Int64) = lN 720 from rfl, lowX_e hN (by omega) (by omega) (by omega) hw, bind_s]
theorem shM_e {τ : Hp} {N g w : Nat} {C : Cp} (r : RM τ C) (b : BC C) (hN : 1000 < N) (hg : g < 6) (hw : w ≤ 1) : ∃ τ', t_X7_shapley_30 N N (nI g) (nI w) 0 0 τ = some (lN (lowN (shS C g 64) 720 w), τ') ∧ GF τ τ' := by
  have key : ∃ q : Int64 × Hp, t_X7_shapley_30 N N (nI g) (nI w) 0 0 τ = some q ∧ (q.1 = lN (lowN (shS C g 64) 720 w) ∧ GF τ q.2) := by
    unfold t_X7_shapley_30
    refine li5 _ (fun k v1 v2 v3 v5 s => v1 = nI g ∧ v2 = nI w ∧ v3 = lN (shS C g k) ∧ v5 = nI k ∧ GF τ s) _ 64 ?_ ?_ N (nI g) (nI w) 0 0 τ (by omega) ⟨rfl, rfl, rfl, rfl, fun _ _ => rfl⟩
    · intro k v1 v2 v3 v5 s hk ⟨a1, a2, a3, a4, a5⟩
      subst a1; subst a2; subst a3; subst a4
      have hl := shS_le b hg k (by omega)
      have u : shS C g (k + 1) = if k.testBit g = true then shS C g k else shS C g k + rwN (pop7 k) * (wrt C (k ||| 2 ^ g) - wrt C k) := rfl
      have c64 : ¬ (64 : Int32) ≤ nI k := nI_ge (a := k) (b := 64) hk (by omega)
      have hb7 := has7 k (by omega) g (by omega)
      by_cases hb : k.testBit g = true
      · refine Or.inr ⟨nI g, nI w, lN (shS C g (k + 1)), nI (k + 1), s, ⟨rfl, rfl, rfl, rfl, a5⟩, fun kk => ?_⟩
        unfold t_X7_shapley_91
        rw [if_neg c64, hb7, if_ne, if_pos hb, bnd_e, nI_1, u, if_pos hb]
      · have hp := pop5 k hk g hg (by simpa using hb)
        have ho := or64 k hk g hg
        have w1 := wrt_le b (k ||| 2 ^ g)
        have w2 := wrt_mono (C := C) k g
        have hf := fcs (pop7 k) (by omega)
        obtain ⟨s1, e1, f1, -⟩ := findWorth_e (N := N) (h := k ||| 2 ^ g) (GF_RM a5 r) b (by omega) (by omega)
        obtain ⟨s2, e2, f2, -⟩ := findWorth_e (N := N) (h := k) (GF_RM f1 (GF_RM a5 r)) b (by omega) (by omega)
        refine Or.inr ⟨nI g, nI w, lN (shS C g (k + 1)), nI (k + 1), s2, ⟨rfl, rfl, rfl, rfl, GF_tr a5 (GF_tr f1 f2)⟩, fun kk => ?_⟩
        have hmul : rwN (pop7 k) * (wrt C (k ||| 2 ^ g) - wrt C k) ≤ 120 * 700 := Nat.mul_le_mul hf.2 (by omega)
        unfold t_X7_shapley_91
        rw [if_neg c64, hb7, if_ne, if_neg hb, ones_e (by omega) (by omega), bind_s, rows_e (by omega) hp, bind_s, bind_s, show (5 : Int32) = nI 5 from rfl, pk_sub hp, rows_e (by omega) (by omega), bind_s, bnd_e, ho.1, e1, b2_s, e2, b2_s, bnd_e, bnd_e]
        show kk _ _ (lN (shS C g k) + (nI (fc (pop7 k - 1 + 1)) * nI (fc (5 - pop7 k - 1 + 1)) * (nI (wrt C (k ||| 2 ^ g)) - nI (wrt C k))).toInt64) _ _ = _
        rw [pk_mul, hf.1, pk_sub w2, pk_mul, nI_l (by omega), lN_add, nI_1, u, if_neg hb]
    · intro v1 v2 v3 v5 s ⟨a1, a2, a3, a4, a5⟩
      subst a2; subst a3; subst a4
      have hl := shS_le b hg 64 (by omega)
      refine ⟨(lN (lowN (shS C g 64) 720 w), s), ⟨rfl, a5⟩, fun kk => (if_pos (show (64 : Int32) ≤ nI 64 by decide)).trans ?_⟩
      rw [show (720 : Int64) = lN 720 from rfl, lowM_e hN (by omega) (by omega) (by omega) hw, bind_s]
  obtain ⟨⟨q, s⟩, q1, q2, q3⟩ := key
  exact ⟨s, by rw [q1]; exact congrArg (fun z => some (z, s)) q2, q3⟩
theorem k_shapley {N : Nat} (hN : 1000 < N) {σ τ : Hp} (hR : Rl σ τ) (p0 p1 : Int32) : ∃ r : Int64, ∃ τ1 : Hp, t_X6_shapley N p0 p1 σ = some r ∧ t_X7_shapley N p0 p1 τ = some (r, τ1) ∧ Rl σ τ1 := by
  obtain ⟨C, H, pn, P, h1, h2, h3, h4, h5, h6, h7, h8, h9⟩ := id hR
  unfold t_X6_shapley t_X7_shapley
  rw [isWithin_e, isHouse_e, bind_s, bind_s]
  by_cases hq : p0 < 0 ∨ 5 < p0
  · rw [ite_0 hq, ite_0 hq]; exact ⟨_, _, rfl, rfl, hR⟩
  obtain ⟨g, hg, rfl⟩ := rng_c (p := p0) (m := 5) (by decide) hq
  rw [ite_1 hq, ite_1 hq, isWithin_e, in_l (a := 0) (b := 1) 0 1 rfl rfl, bind_s, bind_s]
  by_cases hq2 : p1 < 0 ∨ 1 < p1
  · rw [ite_0 hq2, ite_0 hq2]; exact ⟨_, _, rfl, rfl, hR⟩
  obtain ⟨w, hw, rfl⟩ := rng_c (p := p1) (m := 1) (by decide) hq2
  obtain ⟨τ', e1, f1⟩ := shM_e (N := N) h2 h3 hN (show g < 6 by omega) hw
  rw [ite_1 hq2, ite_1 hq2, shX_e h1 h3 hN (show g < 6 by omega) hw, e1]
  exact ⟨_, _, rfl, rfl, Rl_fr hR XF_rf (GF_MF f1)⟩
