def eA : Nat → Nat → Nat → Nat
  | 0, a, _ => a
  | k + 1, a, b => eA k b (a % b)
def eB : Nat → Nat → Nat → Nat
  | 0, _, b => b
  | k + 1, a, b => eB k b (a % b)
theorem eA_s : ∀ k a b, eA (k + 1) a b = eB k a b
  | 0, _, _ => rfl
  | k + 1, a, b => eA_s k b (a % b)
theorem eB_s : ∀ k a b, eB (k + 1) a b = eA k a b % eB k a b
  | 0, _, _ => rfl
  | k + 1, a, b => eB_s k b (a % b)
theorem euc_end : ∀ j a b, b < 2 ^ j → ∃ T, T ≤ 2 * j ∧ eB T a b = 0 ∧ (∀ k, k < T → eB k a b ≠ 0) ∧ eA T a b = Nat.gcd a b := by
  intro j
  induction j with
  | zero =>
    intro a b hb
    obtain rfl : b = 0 := by omega
    exact ⟨0, by omega, rfl, fun k hk => absurd hk (Nat.not_lt_zero k), (Nat.gcd_zero_right a).symm⟩
  | succ j ih =>
    intro a b hb
    by_cases h0 : b = 0
    · subst h0
      exact ⟨0, by omega, rfl, fun k hk => absurd hk (Nat.not_lt_zero k), (Nat.gcd_zero_right a).symm⟩
    have g1 : Nat.gcd b (a % b) = Nat.gcd a b := by rw [Nat.gcd_comm a b, Nat.gcd_rec b a, Nat.gcd_comm]
    by_cases h1 : a % b = 0
    · refine ⟨1, by omega, h1, fun k hk => ?_, ?_⟩
      · obtain rfl : k = 0 := by omega
        exact h0
      · show b = _
        rw [← g1, h1, Nat.gcd_zero_right]
    · have hlt : a % b < b := Nat.mod_lt _ (by omega)
      have hb2 : b % (a % b) < 2 ^ j := by
        have h3 := Nat.mod_lt b (show a % b > 0 by omega)
        have h4 := Nat.div_add_mod b (a % b)
        have h5 : 1 ≤ b / (a % b) := Nat.div_pos (by omega) (by omega)
        have h6 : a % b ≤ (a % b) * (b / (a % b)) := Nat.le_mul_of_pos_right _ h5
        have h7 : 2 ^ (j + 1) = 2 * 2 ^ j := by rw [Nat.pow_succ]; omega
        omega
      obtain ⟨T, t1, t2, t3, t4⟩ := ih (a % b) (b % (a % b)) hb2
      refine ⟨T + 2, by omega, t2, fun k hk => ?_, ?_⟩
      · rcases (show k = 0 ∨ k = 1 ∨ ∃ i, k = i + 2 from by rcases k with _ | _ | i; exact Or.inl rfl; exact Or.inr (Or.inl rfl); exact Or.inr (Or.inr ⟨i, rfl⟩)) with rfl | rfl | ⟨i, rfl⟩
        · exact h0
        · exact h1
        · exact t3 i (by omega)
      · show eA T (a % b) (b % (a % b)) = _
        rw [t4, ← g1, Nat.gcd_comm b (a % b), Nat.gcd_rec (a % b) b, Nat.gcd_comm]
theorem e_lt : ∀ k a b M, a < M → b < M → eA k a b < M ∧ eB k a b < M
  | 0, a, b, M, ha, hb => ⟨ha, hb⟩
  | k + 1, a, b, M, ha, hb => e_lt k b (a % b) M hb (by
      rcases Nat.eq_zero_or_pos b with rfl | h
      · rw [Nat.mod_zero]; exact ha
      · exact Nat.lt_of_le_of_lt (Nat.mod_le _ _) ha)
theorem lgz {α : Type} {n : Nat} (hn : n < 2 ^ 62) {x y : α} : (if lg_cmp (lN n) 0 = 0 then x else y) = if n = 0 then x else y := by
  have : (lg_cmp (lN n) 0 = 0) = (n = 0) := propext (by rw [lg_cmp_eq]; exact pk_lEQ (b := 0) (by omega) (by omega))
  simp only [this]
theorem dl_nz {α : Type} {n : Nat} (hn : n < 2 ^ 62) (h0 : n ≠ 0) {t : Option α} : dl (lN n) t = t := if_neg (fun h => h0 ((pk_lEQ (b := 0) (by omega) (by omega)).mp h))
theorem comDiv_e {N a b : Nat} (hN : 1000 < N) (ha : a < 2 ^ 40) (hb : b < 2 ^ 40) : t_X6_commonDivisor N (lN a) (lN b) = some (lN (Nat.gcd a b)) := by
  obtain ⟨T, t1, t2, t3, t4⟩ := euc_end 40 a b hb
  unfold t_X6_commonDivisor t_X6_commonDivisor_3
  refine lr3 _ (fun k => lN (eA k a b)) (fun k => lN (eB k a b)) (fun k => nI k) T _ ?_ ?_ N (by omega)
  · intro k hk kk
    have l := e_lt k a b (2 ^ 40) ha hb
    have h0 := t3 k hk
    show (if (1000 : Int32) ≤ nI k then _ else if lg_cmp (lN (eB k a b)) 0 = 0 then _ else dl (lN (eB k a b)) _) = _
    rw [if_neg (show ¬ (1000 : Int32) ≤ nI k from nI_ge (a := k) (b := 1000) (by omega) (by omega)), lgz (by omega), if_neg h0]
    rw [dl_nz (by omega) h0, bnd_e, bnd_e, pk_lRem (by omega) (by omega) (by omega), nI_1, eA_s, eB_s]
  · intro kk
    show (if (1000 : Int32) ≤ nI T then _ else if lg_cmp (lN (eB T a b)) 0 = 0 then _ else _) = _
    rw [if_neg (show ¬ (1000 : Int32) ≤ nI T from nI_ge (a := T) (b := 1000) (by omega) (by omega)), t2, lgz (by omega), if_pos rfl, t4]
def lowN (a b w : Nat) : Nat := if w = 0 then a / Nat.gcd a b else b / Nat.gcd a b
theorem gcd_lt {a b M : Nat} (hb : 0 < b) (hM : b < M) : 0 < Nat.gcd a b ∧ Nat.gcd a b < M := ⟨Nat.gcd_pos_of_pos_right a hb, Nat.lt_of_le_of_lt (Nat.gcd_le_right a hb) hM⟩
theorem lowX_e {N a b w : Nat} (hN : 1000 < N) (ha : a < 2 ^ 40) (hb : b < 2 ^ 40) (h0 : 0 < b) (hw : w ≤ 1) : t_X6_lowest N (lN a) (lN b) (nI w) = some (lN (lowN a b w)) := by
  obtain ⟨g1, g2⟩ := gcd_lt (a := a) h0 hb
  unfold t_X6_lowest lowN
  rw [comDiv_e hN ha hb, bind_s, lgz (by omega), if_neg (by omega), dl_nz (by omega) (by omega), dl_nz (by omega) (by omega), pk_lDiv (by omega) g1 (by omega), pk_lDiv (by omega) g1 (by omega)]
  rcases (show w = 0 ∨ w = 1 by omega) with rfl | rfl <;> rfl
theorem lowM_e {N a b w : Nat} (hN : 1000 < N) (ha : a < 2 ^ 40) (hb : b < 2 ^ 40) (h0 : 0 < b) (hw : w ≤ 1) : t_X7_lowest N (lN a) (lN b) (nI w) = some (lN (lowN a b w)) := by
  obtain ⟨T, t1, t2, t3, t4⟩ := euc_end 40 b a ha
  rw [Nat.gcd_comm] at t4
  obtain ⟨g1, g2⟩ := gcd_lt (a := a) h0 hb
  unfold t_X7_lowest t_X7_lowest_6
  refine lr5 _ (fun _ => lN a) (fun _ => lN b) (fun _ => nI w) (fun k => lN (eA k b a)) (fun k => lN (eB k b a)) T _ ?_ ?_ N (by omega)
  · intro k hk kk
    have l := e_lt k b a (2 ^ 40) hb ha
    have h0 := t3 k hk
    show (if lg_cmp (lN (eB k b a)) 0 = 0 then _ else dl (lN (eB k b a)) _) = _
    rw [lgz (by omega), if_neg h0]
    rw [dl_nz (by omega) h0, bnd_e, pk_lRem (by omega) (by omega) (by omega), eA_s, eB_s]
  · intro kk
    show (if lg_cmp (lN (eB T b a)) 0 = 0 then (if nI w = 0 then dl (lN (eA T b a)) (some (lN a / lN (eA T b a))) else dl (lN (eA T b a)) (some (lN b / lN (eA T b a)))) else _) = _
    unfold lowN
    rw [t2, lgz (by omega), if_pos rfl, t4, dl_nz (by omega) (by omega), dl_nz (by omega) (by omega), pk_lDiv (by omega) g1 (by omega), pk_lDiv (by omega) g1 (by omega)]
    rcases (show w = 0 ∨ w = 1 by omega) with rfl | rfl <;> rfl
theorem lowN_mul {a b m w : Nat} (hm : 0 < m) : lowN (a * m) (b * m) w = lowN a b w := by
  unfold lowN
  rw [Nat.gcd_mul_right, Nat.mul_div_mul_right _ _ hm, Nat.mul_div_mul_right _ _ hm]
