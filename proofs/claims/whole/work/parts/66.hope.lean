theorem lr9 {X1 X2 X3 X4 X5 X6 X7 X8 X9 R : Type} (F : (X1 → X2 → X3 → X4 → X5 → X6 → X7 → X8 → X9 → Option R) → (X1 → X2 → X3 → X4 → X5 → X6 → X7 → X8 → X9 → Option R)) (x1 : Nat → X1) (x2 : Nat → X2) (x3 : Nat → X3) (x4 : Nat → X4) (x5 : Nat → X5) (x6 : Nat → X6) (x7 : Nat → X7) (x8 : Nat → X8) (x9 : Nat → X9) (n : Nat) (r : Option R) (hs : ∀ i, i < n → ∀ k, F k (x1 i) (x2 i) (x3 i) (x4 i) (x5 i) (x6 i) (x7 i) (x8 i) (x9 i) = k (x1 (i + 1)) (x2 (i + 1)) (x3 (i + 1)) (x4 (i + 1)) (x5 (i + 1)) (x6 (i + 1)) (x7 (i + 1)) (x8 (i + 1)) (x9 (i + 1))) (he : ∀ k, F k (x1 n) (x2 n) (x3 n) (x4 n) (x5 n) (x6 n) (x7 n) (x8 n) (x9 n) = r) : ∀ f, n < f → loopG (fun _ _ _ _ _ _ _ _ _ => none) F f (x1 0) (x2 0) (x3 0) (x4 0) (x5 0) (x6 0) (x7 0) (x8 0) (x9 0) = r := by
  have key : ∀ d i f, n = i + d → d < f → loopG (fun _ _ _ _ _ _ _ _ _ => none) F f (x1 i) (x2 i) (x3 i) (x4 i) (x5 i) (x6 i) (x7 i) (x8 i) (x9 i) = r := by
    intro d
    induction d with
    | zero =>
      intro i f h1 h2
      obtain ⟨f, rfl⟩ : ∃ g, f = g + 1 := ⟨f - 1, by omega⟩
      obtain rfl : n = i := by omega
      exact he _
    | succ d ih =>
      intro i f h1 h2
      obtain ⟨f, rfl⟩ : ∃ g, f = g + 1 := ⟨f - 1, by omega⟩
      exact (hs i (by omega) _).trans (ih (i + 1) f (by omega) (by omega))
  intro f hf
  exact key n 0 f (by omega) hf
theorem lr10 {X1 X2 X3 X4 X5 X6 X7 X8 X9 X10 R : Type} (F : (X1 → X2 → X3 → X4 → X5 → X6 → X7 → X8 → X9 → X10 → Option R) → (X1 → X2 → X3 → X4 → X5 → X6 → X7 → X8 → X9 → X10 → Option R)) (x1 : Nat → X1) (x2 : Nat → X2) (x3 : Nat → X3) (x4 : Nat → X4) (x5 : Nat → X5) (x6 : Nat → X6) (x7 : Nat → X7) (x8 : Nat → X8) (x9 : Nat → X9) (x10 : Nat → X10) (n : Nat) (r : Option R) (hs : ∀ i, i < n → ∀ k, F k (x1 i) (x2 i) (x3 i) (x4 i) (x5 i) (x6 i) (x7 i) (x8 i) (x9 i) (x10 i) = k (x1 (i + 1)) (x2 (i + 1)) (x3 (i + 1)) (x4 (i + 1)) (x5 (i + 1)) (x6 (i + 1)) (x7 (i + 1)) (x8 (i + 1)) (x9 (i + 1)) (x10 (i + 1))) (he : ∀ k, F k (x1 n) (x2 n) (x3 n) (x4 n) (x5 n) (x6 n) (x7 n) (x8 n) (x9 n) (x10 n) = r) : ∀ f, n < f → loopG (fun _ _ _ _ _ _ _ _ _ _ => none) F f (x1 0) (x2 0) (x3 0) (x4 0) (x5 0) (x6 0) (x7 0) (x8 0) (x9 0) (x10 0) = r := by
  have key : ∀ d i f, n = i + d → d < f → loopG (fun _ _ _ _ _ _ _ _ _ _ => none) F f (x1 i) (x2 i) (x3 i) (x4 i) (x5 i) (x6 i) (x7 i) (x8 i) (x9 i) (x10 i) = r := by
    intro d
    induction d with
    | zero =>
      intro i f h1 h2
      obtain ⟨f, rfl⟩ : ∃ g, f = g + 1 := ⟨f - 1, by omega⟩
      obtain rfl : n = i := by omega
      exact he _
    | succ d ih =>
      intro i f h1 h2
      obtain ⟨f, rfl⟩ : ∃ g, f = g + 1 := ⟨f - 1, by omega⟩
      exact (hs i (by omega) _).trans (ih (i + 1) f (by omega) (by omega))
  intro f hf
  exact key n 0 f (by omega) hf
/-! counting -/
def cnt (w : Nat → Bool) : Nat → Nat
  | 0 => 0
  | i + 1 => cnt w i + if w i = true then 1 else 0
theorem cnt_le (w : Nat → Bool) : ∀ n, cnt w n ≤ n
  | 0 => Nat.le_refl _
  | n + 1 => by have := cnt_le w n; unfold cnt; split <;> omega
theorem cnt_ext {w v : Nat → Bool} : ∀ n, (∀ i, i < n → w i = v i) → cnt w n = cnt v n
  | 0, _ => rfl
  | n + 1, h => by unfold cnt; rw [cnt_ext n (fun i hi => h i (by omega)), h n (by omega)]
theorem cnt_rm (w : Nat → Bool) (e : Nat) : ∀ n, cnt w n = cnt (fun x => w x && x != e) n + if e < n ∧ w e = true then 1 else 0
  | 0 => by simp [cnt]
  | n + 1 => by
    have ih := cnt_rm w e n
    unfold cnt
    rw [ih]
    by_cases h : n = e
    · subst h
      cases hw : w n <;> simp
    · have h2 : (n != e) = true := by simp [h]
      rw [h2, Bool.and_true]
      by_cases h3 : e < n ∧ w e = true
      · rw [if_pos h3, if_pos (show e < n + 1 ∧ w e = true from ⟨by omega, h3.2⟩)]; omega
      · rw [if_neg h3, if_neg (show ¬ (e < n + 1 ∧ w e = true) from fun z => h3 ⟨by omega, z.2⟩)]; omega
theorem cnt_inj {π : Nat → Nat} {n : Nat} : ∀ i (w : Nat → Bool), (∀ p, p < i → π p < n) → (∀ p q, p < i → q < i → π p = π q → p = q) → cnt (fun p => w (π p)) i ≤ cnt w n
  | 0, w, _, _ => Nat.zero_le _
  | i + 1, w, h1, h2 => by
    have ih := cnt_inj (π := π) (n := n) i (fun x => w x && x != π i) (fun p hp => h1 p (by omega)) (fun p q hp hq => h2 p q (by omega) (by omega))
    have e : cnt (fun p => w (π p)) i = cnt (fun p => w (π p) && π p != π i) i := cnt_ext i (fun p hp => by
      have : (π p != π i) = true := by
        rw [bne_iff_ne]; intro z; have := h2 p i (by omega) (by omega) z; omega
      rw [this, Bool.and_true])
    have r := cnt_rm w (π i) n
    show cnt (fun p => w (π p)) i + (if w (π i) = true then 1 else 0) ≤ _
    rw [e, r]
    by_cases hw : w (π i) = true
    · rw [if_pos hw, if_pos ⟨h1 i (by omega), hw⟩]; omega
    · rw [if_neg hw]; omega
def whl (C : Cp) (e : Nat) : Bool := C 2 (e * 5 + 4) == 0
def alv (C : Cp) : Nat → Bool
  | 0 => true
  | i + 1 => alv C i && !(C 2 (C 1 i * 5 + 4) == 2)
def rch (C : Cp) : Nat → Nat
  | 0 => 0
  | i + 1 => rch C i + if alv C (i + 1) = true ∧ C 2 (C 1 i * 5 + 4) = 0 then 1 else 0
theorem alv_off {C : Cp} {i : Nat} (h : alv C i = false) : ∀ d, alv C (i + d) = false
  | 0 => h
  | d + 1 => by show (alv C (i + d) && _) = false; rw [alv_off h d]; rfl
theorem rch_off {C : Cp} {i : Nat} (h : alv C (i + 1) = false) : ∀ d, rch C (i + d) = rch C i
  | 0 => rfl
  | d + 1 => by
    have e : alv C (i + d + 1) = false := by rw [show i + d + 1 = i + 1 + d by omega]; exact alv_off h d
    show rch C (i + d) + (if alv C (i + d + 1) = true ∧ _ then 1 else 0) = _
    rw [if_neg (fun z => by rw [e] at z; simp at z), rch_off h d]; rfl
theorem rch_cnt (C : Cp) : ∀ i, rch C i ≤ cnt (fun p => whl C (C 1 p)) i
  | 0 => Nat.le_refl _
  | i + 1 => by
    have ih := rch_cnt C i
    show rch C i + _ ≤ cnt _ i + (if (C 2 (C 1 i * 5 + 4) == 0) = true then 1 else 0)
    by_cases h : C 2 (C 1 i * 5 + 4) = 0
    · rw [if_pos (show (C 2 (C 1 i * 5 + 4) == 0) = true by simp [h])]
      split <;> omega
    · rw [if_neg (fun z => h z.2)]; omega
theorem rch_le {C : Cp} (b : BC C) {i : Nat} (hi : i ≤ C 0 0) : rch C i ≤ cnt (whl C) (C 0 0) :=
  Nat.le_trans (rch_cnt C i) (cnt_inj i (whl C) (fun p hp => b.2.2.1 p (by omega)) (fun p q hp hq => b.2.2.2.1 p q (by omega) (by omega)))
theorem cntWX_e {σ : Hp} {N o : Nat} {C : Cp} (r : RC σ o C) (b : BC C) (hN : 7 < N) : t_X0_countWhole N o σ = some (nI (cnt (whl C) (C 0 0))) := by
  have hb := b.1
  unfold t_X0_countWhole t_X0_countWhole_4
  refine lr3 _ (fun i => nI (cnt (whl C) i)) (fun i => nI i) (fun _ => σ) (C 0 0) _ ?_ ?_ N (by omega)
  · intro i hi k
    have hi7 : i < 7 := by omega
    obtain ⟨k0, k1, k2, k3, k4⟩ := b.2.2.2.2.2 i hi7
    unfold t_X0_countWhole_23
    rw [r.1, if_neg (nI_ge hi (by omega)), isWhole_in hi7, bind_s, r.2.2.2 _ (by omega), eq_nI (by omega) (by omega), if_ne, bnd_e, bnd_e, bnd_e, nI_1, nI_1]
    show _ = k (nI (cnt (whl C) i + if (C 2 (i * 5 + 4) == 0) = true then 1 else 0)) _ _
    by_cases h : C 2 (i * 5 + 4) = 0
    · rw [if_pos h, if_pos (show (C 2 (i * 5 + 4) == 0) = true by simp [h])]
    · rw [if_neg h, if_neg (show ¬ (C 2 (i * 5 + 4) == 0) = true by simp [h])]; rfl
  · intro k
    show (if σ o 0 ≤ nI (C 0 0) then _ else _) = _
    rw [r.1, if_pos (nI_le (Nat.le_refl _) (by omega))]
theorem rchX_e {σ : Hp} {N o : Nat} {C : Cp} (r : RC σ o C) (b : BC C) (hN : 7 < N) : t_X0_countWholeAheadOfEaten N o σ = some (nI (rch C (C 0 0))) := by
  have hb := b.1
  have key : ∃ q, t_X0_countWholeAheadOfEaten N o σ = some q ∧ q = nI (rch C (C 0 0)) := by
    unfold t_X0_countWholeAheadOfEaten t_X0_countWholeAheadOfEaten_4
    refine li3 _ (fun i v1 v2 s => v1 = nI (rch C i) ∧ v2 = nI i ∧ s = σ ∧ alv C i = true) _ (C 0 0) ?_ ?_ N 0 0 σ (by omega) ⟨rfl, rfl, rfl, rfl⟩
    · intro i v1 v2 s hi ⟨a1, a2, a3, a4⟩
      subst a1; subst a2; subst a3
      have he7 : C 1 i < 7 := b.2.2.2.2.1 i (by omega)
      obtain ⟨k0, k1, k2, k3, k4⟩ := b.2.2.2.2.2 _ he7
      have u1 : alv C (i + 1) = !(C 2 (C 1 i * 5 + 4) == 2) := by
        show (alv C i && _) = _; rw [a4, Bool.true_and]
      have fr : ∀ k : Int32 → Int32 → Hp → Option Int32, (if s o 0 ≤ nI i then some (nI (rch C i)) else Option.bind (t_X6_at (o + 1) 7 (nI i) s) (fun r2 : Int32 => Option.bind (t_X0_fact o r2 4 s) (fun r3 : Int32 => if r3 = 2 then some (nI (rch C i)) else Option.bind (t_X0_isWhole o r2 s) (fun r4 : Int32 => if r4 = 0 then t_X0_countWholeAheadOfEaten_44 N o k (nI (rch C i)) (nI i) s else bnd (nI (rch C i) + 1) (fun x5 : Int32 => t_X0_countWholeAheadOfEaten_44 N o k x5 (nI i) s))))) = if C 2 (C 1 i * 5 + 4) = 2 then some (nI (rch C i)) else if C 2 (C 1 i * 5 + 4) = 0 then k (nI (rch C i + 1)) (nI (i + 1)) s else k (nI (rch C i)) (nI (i + 1)) s := by
        intro k
        unfold t_X0_countWholeAheadOfEaten_44
        rw [r.1, if_neg (nI_ge hi (by omega)), at_in (by omega) (by omega), r.2.2.1 _ (by omega), bind_s, show (4 : Int32) = nI 4 from rfl, fact_in he7 (by omega), bind_s, isWhole_in he7, bind_s, r.2.2.2 _ (by omega), eq_nI (by omega) (by omega), if_ne, bnd_e, bnd_e, bnd_e, nI_1, nI_1]
        show (if nI (C 2 (C 1 i * 5 + 4)) = nI 2 then _ else _) = _
        rw [eq_nI (by omega) (by omega)]
      by_cases h2 : C 2 (C 1 i * 5 + 4) = 2
      · rw [h2] at u1
        have := rch_off (C := C) (i := i) u1 (C 0 0 - i)
        rw [show i + (C 0 0 - i) = C 0 0 by omega] at this
        exact Or.inl ⟨nI (rch C i), by rw [this], fun k => (fr k).trans (if_pos h2)⟩
      · have u2 : alv C (i + 1) = true := by rw [u1]; simp [h2]
        by_cases h0 : C 2 (C 1 i * 5 + 4) = 0
        · exact Or.inr ⟨nI (rch C i + 1), nI (i + 1), s, ⟨by show _ = nI (rch C i + if _ then 1 else 0); rw [if_pos ⟨u2, h0⟩], rfl, rfl, u2⟩, fun k => (fr k).trans (by rw [if_neg h2, if_pos h0])⟩
        · exact Or.inr ⟨nI (rch C i), nI (i + 1), s, ⟨by show _ = nI (rch C i + if _ then 1 else 0); rw [if_neg (fun z => h0 z.2)]; rfl, rfl, rfl, u2⟩, fun k => (fr k).trans (by rw [if_neg h2, if_neg h0])⟩
    · intro v1 v2 s ⟨a1, a2, a3, a4⟩
      subst a1; subst a2; subst a3
      refine ⟨nI (rch C (C 0 0)), rfl, fun k => ?_⟩
      show (if s o 0 ≤ nI (C 0 0) then _ else _) = _
      rw [r.1, if_pos (nI_le (Nat.le_refl _) (by omega))]
  obtain ⟨q, q1, q2⟩ := key
  rw [q1, q2]
def hpS (q : Nat) : Nat → Nat
  | 0 => 0
  | k + 1 => hpS q k * 10 + q ^ (k + 1)
theorem pw10 : ∀ q, q ≤ 10 → ∀ k, k ≤ 7 → q ^ k ≤ 10000000 := by decide +kernel
theorem hpS_le : ∀ q, q ≤ 10 → ∀ k, k ≤ 7 → hpS q k ≤ 80000000 := by decide +kernel
theorem hpM_b : ∀ q, q ≤ 10 → ∀ x, x ≤ 7 → ∀ m, m ≤ 7 → x ≤ m → hpS q x * 10 ^ (m - x) ≤ 80000000 := by decide +kernel
def hpA (q r w how : Nat) : Nat := if how = 0 then hpS q r else if r = w then q ^ r else 0
theorem hpA_le {q r w how : Nat} (hq : q ≤ 10) (hr : r ≤ 7) : hpA q r w how ≤ 80000000 := by
  have h1 := pw10 q hq r hr
  have h2 := hpS_le q hq r hr
  unfold hpA; split
  · exact h2
  · split <;> omega
theorem hopeX_e {σ : Hp} {N p how w r m : Nat} (hN : 1000 < N) (hp : p ≤ 10) (hh : how ≤ 1) (hw : w ≤ 1) (hr : r ≤ 7) (hm : m ≤ 7) : t_X6_hope_68 N N (nI p) (nI how) (nI w) (nI m) (nI r) 1 1 0 0 σ = some (lN (lowN (hpA (10 - p) r m how) (10 ^ r) w)) := by
  unfold t_X6_hope_68
  refine lr10 _ (fun _ => nI p) (fun _ => nI how) (fun _ => nI w) (fun _ => nI m) (fun _ => nI r) (fun k => lN (10 ^ k)) (fun k => lN ((10 - p) ^ k)) (fun k => lN (hpS (10 - p) k)) (fun k => nI k) (fun _ => σ) r _ ?_ ?_ N (by omega)
  · intro i hi k
    show (if nI r ≤ nI i then _ else if (7 : Int32) ≤ nI i then _ else bnd (lN (10 ^ i) * (10 : Int64)) (fun x3 : Int64 => bnd (lN ((10 - p) ^ i) * ((10 - nI p).toInt64)) (fun x4 : Int64 => bnd (lN (hpS (10 - p) i) * (10 : Int64) + x4) (fun x5 : Int64 => bnd (nI i + 1) (fun x6 : Int32 => k (nI p) (nI how) (nI w) (nI m) (nI r) x3 x4 x5 x6 σ))))) = _
    rw [if_neg (nI_ge hi (by omega)), if_neg (show ¬ (7 : Int32) ≤ nI i from nI_ge (a := i) (b := 7) (by omega) (by omega)), bnd_e, bnd_e, bnd_e, bnd_e, show (10 : Int32) = nI 10 from rfl, pk_sub hp, nI_l (by omega), show (10 : Int64) = lN 10 from rfl, lN_mul, lN_mul, lN_mul, lN_add, nI_1, ← Nat.pow_succ, ← Nat.pow_succ]
    rfl
  · intro k
    have h1 := hpA_le (q := 10 - p) (r := r) (w := m) (how := how) (by omega) hr
    have h2 := pw10 10 (by omega) r hr
    have h3 : 0 < 10 ^ r := Nat.pow_pos (by omega)
    refine (if_pos (show nI r ≤ nI r from nI_le (Nat.le_refl _) (by omega))).trans ?_
    unfold t_X6_hope_117 t_X6_hope_143
    unfold hpA at *
    rcases (show how = 0 ∨ how = 1 by omega) with rfl | rfl
    · rw [if_pos (by rfl)] at h1 ⊢
      rw [if_pos (by rfl), lowX_e hN (by omega) (by omega) h3 hw, bind_s]
    · rw [if_neg (by decide), eq_nI (by omega) (by omega)] 
      rw [if_neg (show ¬ (1 : Nat) = 0 by decide)] at h1 ⊢
      by_cases hrm : r = m
      · rw [if_pos hrm] at h1 ⊢
        rw [if_pos hrm, lowX_e hN (by omega) (by omega) h3 hw, bind_s]
      · rw [if_neg hrm] at h1 ⊢
        rw [if_neg hrm, show (0 : Int64) = lN 0 from rfl, lowX_e hN (by omega) (by omega) h3 hw, bind_s]
theorem power_e {N a k : Nat} (hN : 7 < N) (ha : a ≤ 10) (hk : k ≤ 7) : t_X7_power N (nI a) (nI k) = some (lN (a ^ k)) := by
  unfold t_X7_power t_X7_power_5
  refine lr4 _ (fun _ => nI a) (fun _ => nI k) (fun i => lN (a ^ i)) (fun i => nI i) k _ ?_ ?_ N (by omega)
  · intro i hi kk
    show (if nI k ≤ nI i then _ else _) = _
    rw [if_neg (nI_ge hi (by omega)), bnd_e, bnd_e, nI_l (by omega), lN_mul, nI_1, ← Nat.pow_succ]
  · intro kk
    exact if_pos (nI_le (Nat.le_refl _) (by omega))
theorem hopeM1_e {τ : Hp} {N p how w : Nat} {C : Cp} (r : RM τ C) (b : BC C) (hN : 7 < N) : t_X7_hope_42 N N (nI p) (nI how) (nI w) 0 0 τ = t_X7_hope_89 N N (nI p) (nI how) (nI w) (nI (cnt (whl C) (C 0 0))) 0 0 1 0 τ := by
  have hb := b.1
  unfold t_X7_hope_42
  refine lr6 _ (fun _ => nI p) (fun _ => nI how) (fun _ => nI w) (fun i => nI (cnt (whl C) i)) (fun i => nI i) (fun _ => τ) (C 0 0) _ ?_ ?_ N (by omega)
  · intro i hi k
    have hi7 : i < 7 := by omega
    obtain ⟨d0, d1, d2, d3, d4⟩ := r.2.2.2 i hi7
    obtain ⟨k0, k1, k2, k3, k4⟩ := b.2.2.2.2.2 i hi7
    unfold t_X7_hope_68
    rw [r.1, if_neg (nI_ge hi (by omega)), gi_in hi7 (by omega), nI_clamp (by omega), d4, bnd_e, bnd_e, bnd_e, bnd_e, nI_1, nI_1, show (0 : Int32) = nI 0 from rfl, eq_nI (by omega) (by omega), nI_add]
    show _ = k _ _ _ (nI (cnt (whl C) i + if (C 2 (i * 5 + 4) == 0) = true then 1 else 0)) _ _
    by_cases h : C 2 (i * 5 + 4) = 0
    · rw [if_pos h, if_pos (show (C 2 (i * 5 + 4) == 0) = true by simp [h])]
    · rw [if_neg h, if_neg (show ¬ (C 2 (i * 5 + 4) == 0) = true by simp [h])]
  · intro k
    show (if τ 0 0 ≤ nI (C 0 0) then _ else _) = _
    rw [r.1, if_pos (nI_le (Nat.le_refl _) (by omega))]
def hpM (q m k : Nat) : Nat := hpS q k * 10 ^ (m - k)
theorem hpM_s {q m k : Nat} (h : k + 1 ≤ m) : hpM q m (k + 1) = hpM q m k + q ^ (k + 1) * 10 ^ (m - (k + 1)) := by
  show (hpS q k * 10 + q ^ (k + 1)) * 10 ^ (m - (k + 1)) = hpS q k * 10 ^ (m - k) + _
  rw [Nat.add_mul, Nat.mul_assoc, show m - k = (m - (k + 1)) + 1 by omega, Nat.pow_succ 10 (m - (k + 1)), Nat.mul_comm 10 (10 ^ (m - (k + 1)))]
theorem hopeM_e {τ : Hp} {N p how w : Nat} {C : Cp} (r : RM τ C) (b : BC C) (hN : 1000 < N) (hp : p ≤ 10) (hh : how ≤ 1) (hw : w ≤ 1) : t_X7_hope_89 N N (nI p) (nI how) (nI w) (nI (cnt (whl C) (C 0 0))) 0 0 1 0 τ = some (lN (lowN (hpA (10 - p) (rch C (C 0 0)) (cnt (whl C) (C 0 0)) how) (10 ^ (rch C (C 0 0))) w)) := by
  have hb := b.1
  have hm7 := cnt_le (whl C) (C 0 0)
  obtain ⟨m, hm⟩ : ∃ m, cnt (whl C) (C 0 0) = m := ⟨_, rfl⟩
  rw [hm] at hm7 ⊢
  unfold t_X7_hope_89
  refine lr9 _ (fun _ => nI p) (fun _ => nI how) (fun _ => nI w) (fun _ => nI m) (fun i => lN (hpM (10 - p) m (rch C i))) (fun i => nI (rch C i)) (fun i => bI (alv C i)) (fun i => nI i) (fun _ => τ) (C 0 0) _ ?_ ?_ N (by omega) |> (fun h => (show _ = _ from by rw [show (0 : Int64) = lN (hpM (10 - p) m (rch C 0)) from by show lN 0 = lN (0 * _); rw [Nat.zero_mul]]; exact h))
  · intro i hi k
    have hi7 : i < 7 := by omega
    have he7 : C 1 i < 7 := b.2.2.2.2.1 i (by omega)
    obtain ⟨d0, d1, d2, d3, d4⟩ := r.2.2.2 _ he7
    obtain ⟨k0, k1, k2, k3, k4⟩ := b.2.2.2.2.2 _ he7
    have hl := rch_le b (i := i + 1) (by omega)
    rw [hm] at hl
    have hl0 := rch_le b (i := i) (by omega)
    rw [hm] at hl0
    have u1 : alv C (i + 1) = (alv C i && !(C 2 (C 1 i * 5 + 4) == 2)) := rfl
    have u2 : rch C (i + 1) = rch C i + if alv C (i + 1) = true ∧ C 2 (C 1 i * 5 + 4) = 0 then 1 else 0 := rfl
    unfold t_X7_hope_127 t_X7_hope_128 t_X7_hope_173
    rw [r.1, if_neg (nI_ge hi (by omega)), gi_in hi7 (by omega), nI_clamp (by omega), r.2.2.1 i hi7, bnd_e]
    simp only [gi_in (k := C 1 i) (n := 7) he7 (by omega), nI_clamp (n := C 1 i) (by omega), d4, bI_0, if_true, bnd_e, nI_1]
    cases ha : alv C i
    · have v1 : alv C (i + 1) = false := by rw [u1, ha]; rfl
      have v2 : rch C (i + 1) = rch C i := by rw [u2, v1, if_neg (fun z => by simp at z)]; rfl
      rw [if_neg (by decide), v1, v2]; rfl
    · rw [if_pos rfl]
      by_cases h2 : C 2 (C 1 i * 5 + 4) = 2
      · have v1 : alv C (i + 1) = false := by rw [u1, h2]; simp
        have v2 : rch C (i + 1) = rch C i := by rw [u2, v1, if_neg (fun z => by simp at z)]; rfl
        rw [v1, v2, h2, if_pos (show nI 2 = (2 : Int32) from rfl)]; rfl
      · have v1 : alv C (i + 1) = true := by rw [u1, ha]; simp [h2]
        rw [if_neg (show ¬ nI (C 2 (C 1 i * 5 + 4)) = (2 : Int32) from fun z => h2 ((nI_eq (by omega) (by omega)).mp (show nI (C 2 (C 1 i * 5 + 4)) = nI 2 from z))), if_neg (by decide), v1]
        by_cases h0 : C 2 (C 1 i * 5 + 4) = 0
        · have v2 : rch C (i + 1) = rch C i + 1 := by rw [u2, if_pos ⟨v1, h0⟩]
          rw [v2] at hl ⊢
          rw [h0, if_pos (show nI 0 = (0 : Int32) from rfl), show (10 : Int32) = nI 10 from rfl, pk_sub hp, power_e (by omega) (by omega) (by omega), bind_s, pk_sub hl, power_e (by omega) (by omega) (by omega), bind_s, lN_mul, lN_add, hpM_s hl]; rfl
        · have v2 : rch C (i + 1) = rch C i := by rw [u2, if_neg (fun z => h0 z.2)]; rfl
          rw [v2, if_neg (show ¬ nI (C 2 (C 1 i * 5 + 4)) = (0 : Int32) from fun z => h0 ((nI_eq (by omega) (by omega)).mp (show nI (C 2 (C 1 i * 5 + 4)) = nI 0 from z)))]; rfl
  · intro k
    obtain ⟨x, hx⟩ : ∃ x, x = rch C (C 0 0) := ⟨_, rfl⟩
    have hl := rch_le b (i := C 0 0) (by omega)
    rw [hm, ← hx] at hl
    have g1 := hpA_le (q := 10 - p) (r := x) (w := m) (how := how) (by omega) (by omega)
    have g2 := pw10 10 (by omega) x (by omega)
    have g3 : 0 < 10 ^ (m - x) := Nat.pow_pos (by omega)
    have g4 : 10 ^ m = 10 ^ x * 10 ^ (m - x) := by rw [← Nat.pow_add]; congr 1; omega
    have g5 := pw10 10 (by omega) (m - x) (by omega)
    have g6 := pw10 10 (by omega) m (by omega)
    have g7 : 0 < 10 ^ m := Nat.pow_pos (by omega)
    have g8 := hpS_le (10 - p) (by omega) x (by omega)
    have g9 : hpM (10 - p) m x ≤ 80000000 * 10000000 := by unfold hpM; exact Nat.mul_le_mul g8 g5
    have g10 := pw10 (10 - p) (by omega) m (by omega)
    have g11 : hpS (10 - p) x * 10 ^ (m - x) < 2 ^ 40 := Nat.lt_of_le_of_lt (hpM_b _ (by omega) _ (by omega) _ (by omega) hl) (by omega)
    rw [← hx]
    show (if τ 0 0 ≤ nI (C 0 0) then _ else _) = _
    rw [r.1, if_pos (nI_le (Nat.le_refl _) (by omega))]
    unfold t_X7_hope_204 t_X7_hope_206
    have z0 : lN (hpM (10 - p) m (rch C 0)) = 0 := by show lN (0 * _) = 0; rw [Nat.zero_mul]; rfl
    rw [z0, ← lowN_mul (m := 10 ^ (m - x)) g3, ← g4]
    rcases (show how = 0 ∨ how = 1 by omega) with rfl | rfl
    · rw [if_neg (by decide), show (10 : Int32) = nI 10 from rfl, power_e (by omega) (by omega) (by omega), bind_s]
      unfold hpM hpA
      rw [if_pos rfl, lowM_e hN g11 (by omega) g7 hw, bind_s]
    · rw [if_pos (by rfl), eq_nI (by omega) (by omega), show (10 : Int32) = nI 10 from rfl, pk_sub hp, power_e (a := 10 - p) (by omega) (by omega) (by omega), bind_s, power_e (a := 10) (by omega) (by omega) (by omega), bind_s]
      unfold hpA
      rw [if_neg (show ¬ (1 : Nat) = 0 by decide)]
      by_cases hxm : x = m
      · rw [if_pos hxm, if_pos hxm, hxm, Nat.sub_self, Nat.pow_zero, Nat.mul_one, lowM_e hN (by omega) (by omega) g7 hw, bind_s]
      · rw [if_neg hxm, if_neg hxm, Nat.zero_mul, bind_s, show (0 : Int64) = lN 0 from rfl, lowM_e hN (by omega) (by omega) g7 hw, bind_s]
theorem k_hope {N : Nat} (hN : 1000 < N) {σ τ : Hp} (hR : Rl σ τ) (p0 p1 p2 : Int32) : ∃ r : Int64, t_X6_hope N p0 p1 p2 σ = some r ∧ t_X7_hope N p0 p1 p2 τ = some r ∧ Rl σ τ := by
  obtain ⟨C, H, pn, P, h1, h2, h3, h4, h5, h6, h7, h8, h9⟩ := id hR
  have hb := h3.1
  have hm7 := cnt_le (whl C) (C 0 0)
  have hr7 := rch_le h3 (i := C 0 0) (by omega)
  unfold t_X6_hope t_X7_hope
  simp only [isWithin_e, in_l (a := 0) (b := 10) 0 10 rfl rfl, in_l (a := 0) (b := 1) 0 1 rfl rfl, bind_s]
  by_cases hq : p0 < 0 ∨ 10 < p0
  · rw [ite_0 hq, ite_0 hq]; exact ⟨_, rfl, rfl, hR⟩
  obtain ⟨p, hp, rfl⟩ := rng_c (p := p0) (m := 10) (by decide) hq
  rw [ite_1 hq, ite_1 hq]
  by_cases hq1 : p1 < 0 ∨ 1 < p1
  · rw [ite_0 hq1, ite_0 hq1]; exact ⟨_, rfl, rfl, hR⟩
  obtain ⟨how, hh, rfl⟩ := rng_c (p := p1) (m := 1) (by decide) hq1
  rw [ite_1 hq1, ite_1 hq1]
  by_cases hq2 : p2 < 0 ∨ 1 < p2
  · rw [ite_0 hq2, ite_0 hq2]; exact ⟨_, rfl, rfl, hR⟩
  obtain ⟨w, hw, rfl⟩ := rng_c (p := p2) (m := 1) (by decide) hq2
  rw [ite_1 hq2, ite_1 hq2, cntWX_e h1 h3 (by omega), bind_s, rchX_e h1 h3 (by omega), bind_s, hopeX_e hN hp hh hw (by omega) (by omega), hopeM1_e h2 h3 (by omega), hopeM_e h2 h3 hN hp hh hw]
  exact ⟨_, rfl, rfl, hR⟩
