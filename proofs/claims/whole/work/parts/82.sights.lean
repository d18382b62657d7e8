/-! which rows fit, by what was seen: a week that nothing is eaten or mended in -/
theorem mF_le {w f : Nat → Nat} {x : Nat} : ∀ k, mF w f k ≤ x ↔ ∀ q, q < k → w (f q) ≤ x
  | 0 => ⟨fun _ q hq => absurd hq (Nat.not_lt_zero q), fun _ => Nat.zero_le _⟩
  | k + 1 => by
    show max (mF w f k) (w (f k)) ≤ x ↔ _
    rw [Nat.max_le, mF_le k]
    constructor
    · intro ⟨h1, h2⟩ q hq
      by_cases c : q = k
      · subst c; exact h2
      · exact h1 q (by omega)
    · intro h
      exact ⟨fun q hq => h q (by omega), h k (by omega)⟩
theorem mF_cg {w v f : Nat → Nat} : ∀ k, (∀ q, q < k → w (f q) = v (f q)) → mF w f k = mF v f k
  | 0, _ => rfl
  | k + 1, h => by
    show max (mF w f k) (w (f k)) = max (mF v f k) (v (f k))
    rw [mF_cg k (fun q hq => h q (by omega)), h k (by omega)]
theorem mF_ge {w f : Nat → Nat} {k q : Nat} (hq : q < k) : w (f q) ≤ mF w f k := (mF_le k).mp (Nat.le_refl _) q hq
theorem WC_n1 {C : Cp} {j : Nat} (h : j % 5 ≠ 1) : ∀ i, WC C i 2 j = C 2 j
  | 0 => rfl
  | i + 1 => by
    have ih := WC_n1 (C := C) h i
    show wst (WC C i) i 2 j = _
    unfold wst
    split
    · split
      · split
        · rw [cset_ne (by omega)]; exact ih
        · exact ih
      · exact ih
    · exact ih
theorem WC_w {C : Cp} {e : Nat} : ∀ i, WC C i 2 (e * 5 + 1) = C 2 (e * 5 + 1) + if e < i ∧ C 2 (e * 5 + 4) = 0 ∧ (C 0 1).testBit (C 2 (e * 5 + 3)) = true ∧ C 2 (e * 5 + 1) < 9 then 1 else 0
  | 0 => by rw [if_neg (fun z => absurd z.1 (Nat.not_lt_zero e))]; rfl
  | i + 1 => by
    have ih := WC_w (C := C) (e := e) i
    show wst (WC C i) i 2 (e * 5 + 1) = _
    by_cases c : e = i
    · subst c
      rw [if_neg (fun z => absurd z.1 (Nat.lt_irrefl e))] at ih
      have ih : WC C e 2 (e * 5 + 1) = C 2 (e * 5 + 1) := ih
      unfold wst
      rw [WC_n1 (by omega), WC_n1 (by omega), WC_o (by omega), ih]
      by_cases c1 : C 2 (e * 5 + 4) = 0
      · rw [if_pos c1]
        by_cases c2 : (C 0 1).testBit (C 2 (e * 5 + 3)) = true
        · rw [if_pos c2]
          by_cases c3 : C 2 (e * 5 + 1) < 9
          · rw [if_pos c3, cset_eq, if_pos ⟨by omega, c1, c2, c3⟩]
          · rw [if_neg c3, ih, if_neg (fun z => c3 z.2.2.2)]; rfl
        · rw [if_neg c2, ih, if_neg (fun z => c2 z.2.2.1)]; rfl
      · rw [if_neg c1, ih, if_neg (fun z => c1 z.2.1)]; rfl
    · have e1 : wst (WC C i) i 2 (e * 5 + 1) = WC C i 2 (e * 5 + 1) := by
        unfold wst
        split
        · split
          · split
            · exact cset_ne (by omega)
            · rfl
          · rfl
        · rfl
      rw [e1, ih]
      by_cases z : e < i ∧ C 2 (e * 5 + 4) = 0 ∧ (C 0 1).testBit (C 2 (e * 5 + 3)) = true ∧ C 2 (e * 5 + 1) < 9
      · rw [if_pos z, if_pos ⟨by omega, z.2⟩]
      · rw [if_neg z, if_neg (fun y => z ⟨by omega, y.2⟩)]
theorem gs_iff {W : Cp} : ∀ p, gs W 0 p = true ↔ ∀ q, q < p → W 2 (W 1 q * 5 + 4) = 1 ∨ (W 2 (W 1 q * 5 + 4) = 0 ∧ W 2 (W 1 q * 5) ≤ W 2 (W 1 q * 5 + 1))
  | 0 => ⟨fun _ q hq => absurd hq (Nat.not_lt_zero q), fun _ => rfl⟩
  | p + 1 => by
    show (gs W 0 p && (W 2 (W 1 p * 5 + 4) == 1 || (W 2 (W 1 p * 5 + 4) == 0 && rdy W 0 (W 1 p)))) = true ↔ _
    unfold rdy
    rw [Nat.zero_testBit, Bool.or_false, Bool.and_eq_true, Bool.or_eq_true, Bool.and_eq_true, beq_iff_eq, beq_iff_eq, decide_eq_true_iff, gs_iff p]
    constructor
    · intro ⟨h1, h2⟩ q hq
      by_cases c : q = p
      · subst c; exact h2
      · exact h1 q (by omega)
    · intro h
      exact ⟨fun q hq => h q (by omega), h p (by omega)⟩
theorem hbt_iff {W : Cp} {x : Nat} : ∀ m, (hbt W 0 m).testBit x = true ↔ ∃ q, q < m ∧ W 1 q = x ∧ gs W 0 (q + 1) = true ∧ W 2 (x * 5 + 4) = 0
  | 0 => ⟨fun h => by rw [show hbt W 0 0 = 0 from rfl, Nat.zero_testBit] at h; exact absurd h (by decide), fun ⟨q, h, _⟩ => absurd h (Nat.not_lt_zero q)⟩
  | m + 1 => by
    have ih := hbt_iff (W := W) (x := x) m
    have key : (hbt W 0 (m + 1)).testBit x = true ↔ (hbt W 0 m).testBit x = true ∨ (W 1 m = x ∧ gs W 0 (m + 1) = true ∧ W 2 (x * 5 + 4) = 0) := by
      show (if (gs W 0 (m + 1) && W 2 (W 1 m * 5 + 4) == 0) = true then hbt W 0 m ||| 2 ^ W 1 m else hbt W 0 m).testBit x = true ↔ _
      split
      · rename_i c
        rw [Bool.and_eq_true, beq_iff_eq] at c
        rw [Nat.testBit_or, Bool.or_eq_true, Nat.testBit_two_pow, decide_eq_true_iff]
        exact ⟨fun z => z.elim Or.inl (fun y => Or.inr ⟨y, c.1, by rw [← y]; exact c.2⟩), fun z => z.elim Or.inl (fun y => Or.inr y.1)⟩
      · rename_i c
        rw [Bool.and_eq_true, beq_iff_eq] at c
        exact ⟨Or.inl, fun z => z.elim id (fun y => absurd ⟨y.2.1, by rw [y.1]; exact y.2.2⟩ c)⟩
    rw [key, ih]
    constructor
    · rintro (⟨q, h1, h2⟩ | h)
      · exact ⟨q, by omega, h2⟩
      · exact ⟨m, by omega, h⟩
    · rintro ⟨q, h1, h2⟩
      by_cases c : q = m
      · subst c; exact Or.inr h2
      · exact Or.inl ⟨q, by omega, h2⟩
def JJ (n : Nat) (f g : Nat → Nat) (D V : Cp) (w : Nat → Nat) (h : Nat) (t : Nat → Int32) : Prop := D 0 1 = V 0 1 ∧ ∀ e, e < n → D 2 (e * 5 + 4) = (if mF w f (g e + 1) ≤ h then 1 else 0) ∧ (D 2 (e * 5 + 4) = 0 → D 2 (e * 5 + 1) = V 2 (e * 5 + 1)) ∧ D 2 (e * 5) = V 2 (e * 5) ∧ D 2 (e * 5 + 3) = V 2 (e * 5 + 3) ∧ V 2 (e * 5 + 4) = 0 ∧ (w e = 1000 ∨ (w e ≤ h ∧ V 2 (e * 5) ≤ V 2 (e * 5 + 1))) ∧ t e = (if mF w f (g e + 1) ≤ h then nI (mF w f (g e + 1)) else (-6))
theorem J_hour {n h : Nat} {f g : Nat → Nat} {D V : Cp} {w : Nat → Nat} {t : Nat → Int32} (pr : PR n f g) (hh : h < 900) (d0 : D 0 0 = n) (dr : ∀ q, q < n → D 1 q = f q) (j : JJ n f g D V w h t) : JJ n f g (hrC D) (WC V n) (fun e => if w e = 1000 ∧ WC V n 2 (e * 5) ≤ WC V n 2 (e * 5 + 1) then h + 1 else w e) (h + 1) (fun e => if (hbC D).testBit e = true then nI (h + 1) else t e) := by
  obtain ⟨j0, j1⟩ := j
  obtain ⟨w', hw'⟩ : ∃ w' : Nat → Nat, w' = (fun e => if w e = 1000 ∧ WC V n 2 (e * 5) ≤ WC V n 2 (e * 5 + 1) then h + 1 else w e) := ⟨_, rfl⟩
  rw [← hw']
  have uw : ∀ e, w' e = if w e = 1000 ∧ WC V n 2 (e * 5) ≤ WC V n 2 (e * 5 + 1) then h + 1 else w e := fun e => by rw [hw']
  obtain ⟨W, hW⟩ : ∃ W, WC D n = W := ⟨_, rfl⟩
  have hb : hbC D = hbt W 0 n := by unfold hbC; rw [d0, hW]
  have hr : hrC D = HC W (hbt W 0 n) := by unfold hrC; rw [hb, d0, hW]
  have W1 : ∀ q, q < n → W 1 q = f q := fun q hq => by rw [← hW, WC_o (by omega)]; exact dr q hq
  have Wn : ∀ j, j % 5 ≠ 1 → W 2 j = D 2 j := fun j hj => by rw [← hW]; exact WC_n1 hj n
  have Vn : ∀ j, j % 5 ≠ 1 → WC V n 2 j = V 2 j := fun j hj => WC_n1 hj n
  -- an egg that was warm enough stays so
  have fA : ∀ e, e < n → ((w' e = 1000 ∧ ¬ WC V n 2 (e * 5) ≤ WC V n 2 (e * 5 + 1) ∧ w e = 1000) ∨ (w' e ≤ h + 1 ∧ WC V n 2 (e * 5) ≤ WC V n 2 (e * 5 + 1))) ∧ (w e ≠ 1000 → w' e = w e) ∧ (w e = 1000 → w' e = 1000 ∨ w' e = h + 1) := fun e he => by
    obtain ⟨i1, i2, i3, i4, i5, i6, i7⟩ := j1 e he
    have v1 := Vn (e * 5) (by omega)
    have v2 := WC_w (C := V) (e := e) n
    rw [uw]
    rcases i6 with i6 | ⟨i6, i6'⟩
    · by_cases c : WC V n 2 (e * 5) ≤ WC V n 2 (e * 5 + 1)
      · rw [if_pos ⟨i6, c⟩]; exact ⟨Or.inr ⟨Nat.le_refl _, c⟩, fun z => absurd i6 z, fun _ => Or.inr rfl⟩
      · rw [if_neg (fun z => c z.2)]; exact ⟨Or.inl ⟨i6, c, i6⟩, fun z => absurd i6 z, fun _ => Or.inl i6⟩
    · rw [if_neg (fun z => by omega)]
      refine ⟨Or.inr ⟨by omega, ?_⟩, fun _ => rfl, fun z => by omega⟩
      rw [v1, v2]; omega
  have fB : ∀ e, e < n → (W 2 (e * 5 + 4) = 1 ∨ (W 2 (e * 5 + 4) = 0 ∧ W 2 (e * 5) ≤ W 2 (e * 5 + 1)) ↔ w' e ≠ 1000) := fun e he => by
    obtain ⟨i1, i2, i3, i4, i5, i6, i7⟩ := j1 e he
    obtain ⟨a1, a2, a3⟩ := fA e he
    rw [Wn _ (by omega), Wn _ (by omega)]
    by_cases c : mF w f (g e + 1) ≤ h
    · rw [if_pos c] at i1
      have := (mF_le _).mp c (g e) (by omega)
      rw [(pr.2 e he).2] at this
      have ne := a2 (by omega)
      exact ⟨fun _ => by omega, fun _ => Or.inl i1⟩
    · rw [if_neg c] at i1
      have i2' := i2 i1
      have wv : W 2 (e * 5 + 1) = WC V n 2 (e * 5 + 1) := by
        rw [← hW, WC_w, WC_w, i1, i2', i4, i5, j0]
      have v1 := Vn (e * 5) (by omega)
      rw [i1, wv, i3, ← v1]
      constructor
      · rintro (z | ⟨_, z⟩)
        · omega
        · intro y
          rcases a1 with a1 | a1
          · exact a1.2.1 z
          · omega
      · intro y
        rcases a1 with a1 | a1
        · exact absurd a1.1 y
        · exact Or.inr ⟨rfl, a1.2⟩
  have fG : ∀ p, p < n → (gs W 0 (p + 1) = true ↔ mF w' f (p + 1) ≤ h + 1) := fun p hp => by
    rw [gs_iff, mF_le]
    refine forall_congr' (fun q => forall_congr' (fun hq => ?_))
    have hqn : q < n := by omega
    rw [W1 q hqn, fB _ (pr.1 q hqn).1]
    obtain ⟨a1, a2, a3⟩ := fA _ (pr.1 q hqn).1
    constructor
    · intro y
      rcases a1 with a1 | a1
      · exact absurd a1.1 y
      · exact a1.1
    · intro y; omega
  have fH : ∀ e, e < n → ((hbt W 0 n).testBit e = true ↔ mF w' f (g e + 1) ≤ h + 1 ∧ D 2 (e * 5 + 4) = 0) := fun e he => by
    obtain ⟨ge, fe⟩ := pr.2 e he
    rw [hbt_iff, Wn _ (by omega)]
    constructor
    · rintro ⟨q, q1, q2, q3, q4⟩
      rw [W1 q q1] at q2
      have : g e = q := by rw [← q2]; exact (pr.1 q q1).2
      rw [this]; exact ⟨(fG q q1).mp q3, q4⟩
    · intro ⟨q3, q4⟩
      exact ⟨g e, ge, (W1 _ ge).trans fe, (fG _ ge).mpr q3, q4⟩
  have up : ∀ e, e < n → mF w f (g e + 1) ≤ h → mF w' f (g e + 1) = mF w f (g e + 1) := fun e he c => by
    refine mF_cg _ (fun q hq => ?_)
    have ge := (pr.2 e he).1
    have := (mF_le _).mp c q hq
    exact (fA _ (pr.1 q (by omega)).1).2.1 (by omega)
  have dn : ∀ e, e < n → ¬ mF w f (g e + 1) ≤ h → mF w' f (g e + 1) ≤ h + 1 → mF w' f (g e + 1) = h + 1 := fun e he c c2 => by
    have ge := (pr.2 e he).1
    have : ∃ q, q < g e + 1 ∧ w' (f q) = h + 1 := by
      refine Classical.byContradiction (fun z => c ((mF_le _).mpr (fun q hq => ?_)))
      have hqn := (pr.1 q (by omega)).1
      obtain ⟨a1, a2, a3⟩ := fA _ hqn
      have := (mF_le _).mp c2 q hq
      rcases (j1 _ hqn).2.2.2.2.2.1 with i6 | i6
      · rcases a3 i6 with y | y
        · omega
        · exact absurd ⟨q, hq, y⟩ z
      · exact i6.1
    obtain ⟨q, q1, q2⟩ := this
    have := mF_ge (w := w') (f := f) q1
    omega
  refine ⟨?_, fun e he => ?_⟩
  · rw [hr_o (by omega), WC_o (by omega)]; exact j0
  obtain ⟨i1, i2, i3, i4, i5, i6, i7⟩ := j1 e he
  have ge := (pr.2 e he).1
  have hk : hrC D 2 (e * 5 + 4) = if (hbt W 0 n).testBit e = true then 1 else D 2 (e * 5 + 4) := by rw [hr, HC_k, Wn _ (by omega)]
  have ho : ∀ j, j % 5 ≠ 4 → hrC D 2 j = W 2 j := fun j hj => by rw [hr, HC_ne (Or.inr hj)]
  obtain ⟨a1, a2, a3⟩ := fA e he
  have bm := fH e he
  refine ⟨?_, fun z => ?_, ?_, ?_, ?_, ?_, ?_⟩
  · rw [hk]
    by_cases c : mF w' f (g e + 1) ≤ h + 1
    · rw [if_pos c]
      by_cases c2 : mF w f (g e + 1) ≤ h
      · rw [i1, if_pos c2]; split <;> rfl
      · rw [if_pos (bm.mpr ⟨c, by rw [i1, if_neg c2]⟩)]
    · rw [if_neg c, if_neg (fun z => c (bm.mp z).1), i1, if_neg]
      intro c2
      exact c (by rw [up e he c2]; omega)
  · rw [hk] at z
    have k0 : D 2 (e * 5 + 4) = 0 := by
      split at z
      · omega
      · exact z
    rw [ho _ (by omega), ← hW, WC_w, WC_w, k0, i2 k0, i4, i5, j0]
  · rw [ho _ (by omega), Wn _ (by omega), Vn _ (by omega)]; exact i3
  · rw [ho _ (by omega), Wn _ (by omega), Vn _ (by omega)]; exact i4
  · rw [Vn _ (by omega)]; exact i5
  · rcases a1 with a1 | a1
    · exact Or.inl a1.1
    · exact Or.inr a1
  · show (if (hbC D).testBit e = true then nI (h + 1) else t e) = _
    rw [hb, i7]
    by_cases c : mF w' f (g e + 1) ≤ h + 1
    · rw [if_pos c]
      by_cases c2 : mF w f (g e + 1) ≤ h
      · rw [if_neg (fun z => by have := (bm.mp z).2; rw [i1, if_pos c2] at this; omega), if_pos c2, up e he c2]
      · rw [if_pos (bm.mpr ⟨c, by rw [i1, if_neg c2]⟩), dn e he c2 c]
    · rw [if_neg c, if_neg (fun z => c (bm.mp z).1), if_neg]
      intro c2
      exact c (by rw [up e he c2]; omega)
/-- the coop with another row -/
def Cr (n : Nat) (f : Nat → Nat) (C : Cp) : Cp := fun a j => if a = 1 ∧ j < n then f j else C a j
theorem Cr_o {n a j : Nat} {f : Nat → Nat} {C : Cp} (h : a ≠ 1) : Cr n f C a j = C a j := if_neg (fun z => h z.1)
theorem Cr_r {n q : Nat} {f : Nat → Nat} {C : Cp} (h : q < n) : Cr n f C 1 q = f q := if_pos ⟨rfl, h⟩
theorem BC_Cr {n : Nat} {f g : Nat → Nat} {C : Cp} (b : BC C) (hn : C 0 0 = n) (pr : PR n f g) : BC (Cr n f C) := by
  obtain ⟨b1, b2, b3, b4, b5, b6⟩ := b
  refine ⟨by rw [Cr_o (by omega)]; exact b1, by rw [Cr_o (by omega)]; exact b2, fun p hp => ?_, fun p q hp hq e => ?_, fun p hp => ?_, fun e he => ?_⟩
  · rw [(Cr_o (by omega) : Cr n f C 0 0 = C 0 0).trans hn] at hp; rw [(Cr_o (by omega) : Cr n f C 0 0 = C 0 0).trans hn, Cr_r hp]; exact (pr.1 p hp).1
  · rw [(Cr_o (by omega) : Cr n f C 0 0 = C 0 0).trans hn] at hp hq; rw [Cr_r hp, Cr_r hq] at e
    rw [← (pr.1 p hp).2, ← (pr.1 q hq).2, e]
  · by_cases c : p < n
    · rw [Cr_r c]; have := (pr.1 p c).1; omega
    · have : Cr n f C 1 p = C 1 p := if_neg (fun z => c z.2)
      rw [this]; exact b5 p hp
  · rw [Cr_o (by omega), Cr_o (by omega), Cr_o (by omega), Cr_o (by omega), Cr_o (by omega)]; exact b6 e he
theorem J_main {P : Nat → Nat} {n m q : Nat} {f g : Nat → Nat} {C : Cp} (hn : C 0 0 = n) (hn7 : n ≤ 7) (pr : PR n f g) (hm : m ≤ 60) (hv : ∀ k, k < m → vld P n k ∧ kd P n k ≤ 2) (hw : ∀ e, e < n → C 2 (e * 5 + 4) = 0) (hq : stopAt P n (Cr n f C) m q) : ∀ k, k ≤ q → JJ n f g (aD P n (Cr n f C) k) (vD P n C k) (wH P n C k) (aH P n k) (aT P n (Cr n f C) k)
  | 0, _ => by
    have h0 : ∀ p, ¬ mF (wH P n C 0) f (p + 1) ≤ 0 := fun p z => by
      have := (mF_le _).mp z p (by omega)
      have : (1000 : Nat) ≤ 0 := this
      omega
    refine ⟨Cr_o (by omega), fun e he => ⟨?_, fun _ => Cr_o (by omega), Cr_o (by omega), Cr_o (by omega), hw e he, Or.inl rfl, ?_⟩⟩
    · show Cr n f C 2 (e * 5 + 4) = if mF (wH P n C 0) f (g e + 1) ≤ 0 then 1 else 0
      rw [if_neg (h0 _), Cr_o (by omega)]; exact hw e he
    · show (if Cr n f C 2 (e * 5 + 4) = 1 then nI 0 else (-6)) = if mF (wH P n C 0) f (g e + 1) ≤ 0 then nI (mF (wH P n C 0) f (g e + 1)) else (-6)
      rw [if_neg (h0 _), Cr_o (by omega), hw e he, if_neg (by omega)]
  | k + 1, hk => by
    have hqm := hq.1
    have ih := J_main hn hn7 pr hm hv hw hq k (by omega)
    have hh := aH_le P n k
    have uD : aD P n (Cr n f C) (k + 1) = nxD P n (aD P n (Cr n f C) k) k := rfl
    have uV : vD P n C (k + 1) = if kd P n k = 0 then WC (vD P n C k) n else if kd P n k = 1 then cset (vD P n C k) 0 1 (vD P n C k 0 1 ^^^ 2 ^ ahs P n k) else cset (vD P n C k) 2 (eg P n k * 5 + 3) (ahs P n k) := rfl
    have uW : wH P n C (k + 1) = fun e => if kd P n k = 0 ∧ wH P n C k e = 1000 ∧ vD P n C (k + 1) 2 (e * 5) ≤ vD P n C (k + 1) 2 (e * 5 + 1) then aH P n (k + 1) else wH P n C k e := rfl
    have uH : aH P n (k + 1) = aH P n k + if kd P n k = 0 then 1 else 0 := rfl
    have uT : aT P n (Cr n f C) (k + 1) = fun e => if kd P n k = 0 then (if (hbC (aD P n (Cr n f C) k)).testBit e = true then nI (aH P n k + 1) else aT P n (Cr n f C) k e) else if kd P n k = 4 ∧ e = eg P n k then nI 0 else aT P n (Cr n f C) k e := rfl
    obtain ⟨hvk, hk2⟩ := hv k (by omega)
    unfold nxD at uD
    by_cases c0 : kd P n k = 0
    · rw [if_pos c0] at uD uV uH
      have d0 : aD P n (Cr n f C) k 0 0 = n := by rw [aD_o (by omega) (by omega), Cr_o (by omega)]; exact hn
      have dr : ∀ q, q < n → aD P n (Cr n f C) k 1 q = f q := fun q hq => by rw [aD_o (by omega) (by omega), Cr_r hq]
      have := J_hour pr (by omega) d0 dr ih
      rw [uD, uV, uH]
      have e1 : wH P n C (k + 1) = fun e => if wH P n C k e = 1000 ∧ WC (vD P n C k) n 2 (e * 5) ≤ WC (vD P n C k) n 2 (e * 5 + 1) then aH P n k + 1 else wH P n C k e := by
        rw [uW, uV, uH]
        funext e
        by_cases z : wH P n C k e = 1000 ∧ WC (vD P n C k) n 2 (e * 5) ≤ WC (vD P n C k) n 2 (e * 5 + 1)
        · rw [if_pos z, if_pos ⟨c0, z⟩]
        · rw [if_neg z, if_neg (fun y => z y.2)]
      have e2 : aT P n (Cr n f C) (k + 1) = fun e => if (hbC (aD P n (Cr n f C) k)).testBit e = true then nI (aH P n k + 1) else aT P n (Cr n f C) k e := by
        rw [uT]; funext e; rw [if_pos c0]
      rw [e1, e2]; exact this
    · rw [if_neg c0] at uD uV uH
      have e1 : wH P n C (k + 1) = wH P n C k := by rw [uW]; funext e; rw [if_neg (fun z => c0 z.1)]
      have e2 : aT P n (Cr n f C) (k + 1) = aT P n (Cr n f C) k := by rw [uT]; funext e; rw [if_neg c0, if_neg (fun z => by omega)]
      have e3 : aH P n (k + 1) = aH P n k := uH.trans (Nat.add_zero _)
      rw [e1, e2, e3]
      obtain ⟨j0, j1⟩ := ih
      by_cases c1 : kd P n k = 1
      · rw [if_pos c1] at uD uV
        rw [uD, uV]
        refine ⟨by rw [cset_eq, cset_eq, j0], fun e he => ?_⟩
        obtain ⟨i1, i2, i3, i4, i5, i6, i7⟩ := j1 e he
        rw [cset_ne (by omega), cset_ne (by omega), cset_ne (by omega), cset_ne (by omega), cset_ne (by omega), cset_ne (by omega), cset_ne (by omega), cset_ne (by omega)]
        exact ⟨i1, i2, i3, i4, i5, i6, i7⟩
      · rw [if_neg c1, if_pos (by omega)] at uD
        rw [if_neg c1] at uV
        rw [uD, uV]
        refine ⟨by rw [cset_ne (by omega), cset_ne (by omega)]; exact j0, fun e he => ?_⟩
        obtain ⟨i1, i2, i3, i4, i5, i6, i7⟩ := j1 e he
        refine ⟨?_, fun z => ?_, ?_, ?_, ?_, ?_, i7⟩
        · rw [cset_ne (by omega)]; exact i1
        · rw [cset_ne (by omega)] at z ⊢; rw [cset_ne (by omega)]; exact i2 z
        · rw [cset_ne (by omega), cset_ne (by omega)]; exact i3
        · by_cases c : e = eg P n k
          · rw [c, cset_eq, cset_eq]
          · rw [cset_ne (by omega), cset_ne (by omega)]; exact i4
        · rw [cset_ne (by omega)]; exact i5
        · rw [cset_ne (by omega), cset_ne (by omega)]; exact i6
theorem aH_mono (P : Nat → Nat) (n j : Nat) : ∀ d, aH P n j ≤ aH P n (j + d)
  | 0 => Nat.le_refl _
  | d + 1 => by
    have := aH_mono P n j d
    have u : aH P n (j + d + 1) = aH P n (j + d) + if kd P n (j + d) = 0 then 1 else 0 := rfl
    show _ ≤ aH P n (j + d + 1)
    omega
theorem wH_st {P : Nat → Nat} {n k e : Nat} {C : Cp} (h : wH P n C k e ≠ 1000) : ∀ d, wH P n C (k + d) e = wH P n C k e
  | 0 => rfl
  | d + 1 => by
    have ih := wH_st h d
    have u : wH P n C (k + d + 1) e = if kd P n (k + d) = 0 ∧ wH P n C (k + d) e = 1000 ∧ vD P n C (k + d + 1) 2 (e * 5) ≤ vD P n C (k + d + 1) 2 (e * 5 + 1) then aH P n (k + d + 1) else wH P n C (k + d) e := rfl
    show wH P n C (k + d + 1) e = _
    rw [u, if_neg (fun z => h (by rw [← ih]; exact z.2.1))]; exact ih
theorem wH_gt {P : Nat → Nat} {n k e : Nat} {C : Cp} (h : wH P n C k e = 1000) (hk : aH P n k < 1000) : ∀ d, aH P n k < wH P n C (k + d) e
  | 0 => by show _ < wH P n C k e; omega
  | d + 1 => by
    have ih := wH_gt h hk d
    have u : wH P n C (k + d + 1) e = if kd P n (k + d) = 0 ∧ wH P n C (k + d) e = 1000 ∧ vD P n C (k + d + 1) 2 (e * 5) ≤ vD P n C (k + d + 1) 2 (e * 5 + 1) then aH P n (k + d + 1) else wH P n C (k + d) e := rfl
    show _ < wH P n C (k + d + 1) e
    rw [u]
    split
    · rename_i z
      have m1 := aH_mono P n k d
      have v : aH P n (k + d + 1) = aH P n (k + d) + if kd P n (k + d) = 0 then 1 else 0 := rfl
      rw [if_pos z.1] at v; omega
    · exact ih
theorem cF_ge {P : Nat → Nat} {n j e : Nat} (h2 : kd P n j = 2) (he : eg P n j = e) : ∀ d, aH P n j + 1 ≤ cF P n (j + 1 + d) e
  | 0 => by
    have u : cF P n (j + 1) e = if kd P n j = 2 ∧ eg P n j = e then aH P n j + 1 else cF P n j e := rfl
    show _ ≤ cF P n (j + 1) e
    rw [u, if_pos ⟨h2, he⟩]; exact Nat.le_refl _
  | d + 1 => by
    have ih := cF_ge h2 he d
    have u : cF P n (j + 1 + d + 1) e = if kd P n (j + 1 + d) = 2 ∧ eg P n (j + 1 + d) = e then aH P n (j + 1 + d) + 1 else cF P n (j + 1 + d) e := rfl
    show _ ≤ cF P n (j + 1 + d + 1) e
    rw [u]
    split
    · have := aH_mono P n j (1 + d)
      rw [← Nat.add_assoc] at this; omega
    · exact ih
theorem cF_ex (P : Nat → Nat) (n e : Nat) : ∀ k, cF P n k e = 0 ∨ ∃ j, j < k ∧ kd P n j = 2 ∧ eg P n j = e ∧ cF P n k e = aH P n j + 1
  | 0 => Or.inl rfl
  | k + 1 => by
    have u : cF P n (k + 1) e = if kd P n k = 2 ∧ eg P n k = e then aH P n k + 1 else cF P n k e := rfl
    rw [u]
    by_cases c : kd P n k = 2 ∧ eg P n k = e
    · rw [if_pos c]; exact Or.inr ⟨k, by omega, c.1, c.2, rfl⟩
    · rw [if_neg c]
      rcases cF_ex P n e k with h | ⟨j, h1, h2⟩
      · exact Or.inl h
      · exact Or.inr ⟨j, by omega, h2⟩
theorem tw_le {n i : Nat} {H : Cp} (b : BH n H) (hi : i < 7) : tw H i ≤ 1000 := by
  have := (b.2.2.2.1 i hi).2
  unfold tw; split <;> omega
theorem m1_n {x : Nat} (hx : x < 2 ^ 31) : ¬ nI x = (-1) := fun e => nI_pos hx (by rw [e]; decide)
theorem m2_n {x : Nat} (hx : x < 2 ^ 31) : ¬ (-2 : Int32) = nI x := fun e => nI_pos hx (by rw [← e]; decide)
theorem tSE_iff {n e : Nat} {H : Cp} (b : BH n H) : ∀ k, k ≤ 7 → ∀ x, x < 2 ^ 31 → ((tSE H e k = (-1) ∨ tSE H e k = nI x) ↔ ∀ i, i < k → H 4 i = e → tw H i = x)
  | 0, _, x, _ => ⟨fun _ i hi => absurd hi (Nat.not_lt_zero i), fun _ => Or.inl rfl⟩
  | k + 1, hk, x, hx => by
    have ih := tSE_iff (e := e) b k (by omega)
    have u : tSE H e (k + 1) = if H 4 k = e then (if tSE H e k = (-1) ∨ tSE H e k = nI (tw H k) then nI (tw H k) else (-2)) else tSE H e k := rfl
    have ht := tw_le b (show k < 7 by omega)
    rw [u]
    by_cases c : H 4 k = e
    · rw [if_pos c]
      by_cases c2 : tSE H e k = (-1) ∨ tSE H e k = nI (tw H k)
      · rw [if_pos c2]
        have g := (ih _ (by omega)).mp c2
        constructor
        · rintro (z | z)
          · exact absurd z (m1_n (by omega))
          · have z' := (nI_eq (by omega) hx).mp z
            intro i hi h4
            by_cases ci : i = k
            · subst ci; exact z'
            · exact (g i (by omega) h4).trans z'
        · intro h
          exact Or.inr (by rw [h k (by omega) c])
      · rw [if_neg c2]
        constructor
        · rintro (z | z)
          · exact absurd z (by decide)
          · exact absurd z (m2_n hx)
        · intro h
          exact absurd ((ih _ (by omega)).mpr (fun i hi h4 => (h i (by omega) h4).trans (h k (by omega) c).symm)) c2
    · rw [if_neg c, ih x hx]
      constructor
      · intro h i hi h4
        by_cases ci : i = k
        · subst ci; exact absurd h4 c
        · exact h i (by omega) h4
      · intro h i hi h4
        exact h i (by omega) h4
/-- what the model asks of a sight -/
def sOk (H : Cp) (t : Nat → Int32) (i : Nat) : Bool := if H 5 i = 0 then decide (t (H 4 i) < 0) else decide (t (H 4 i) = nI (H 5 i))
theorem sight_iff {P : Nat → Nat} {n m q : Nat} {f g : Nat → Nat} {C H Z : Cp} {se : Nat → Int32} (hn : C 0 0 = n) (hn7 : n ≤ 7) (pr : PR n f g) (hm : m ≤ 60) (hv : ∀ k, k < m → vld P n k ∧ kd P n k ≤ 2) (hw : ∀ e, e < n → C 2 (e * 5 + 4) = 0) (hq : stopAt P n (Cr n f C) m q) (hb : BH n H) (z : ∀ e, e < n → Z 3 e = wH P n C m e ∧ Z 4 e = cF P n m e ∧ se e = tSE H e (H 0 1)) : (∀ p, p < n → chi Z se (f p) (mF (Z 3) f (p + 1)) = true) ↔ (q = m ∧ ∀ i, i < H 0 1 → sOk H (aT P n (Cr n f C) m) i = true) := by
  have hs7 := hb.2.1
  have hqm := hq.1
  have hmm := aH_le P n m
  have cg : ∀ p, p < n → mF (Z 3) f (p + 1) = mF (wH P n C m) f (p + 1) := fun p hp => mF_cg _ (fun q' hq' => (z _ (pr.1 q' (by omega)).1).1)
  have Tle : ∀ p, mF (wH P n C m) f (p + 1) ≤ 1000 := fun p => (mF_le _).mpr (fun q' _ => by have := wH_le P n C (f q') m; omega)
  have ch : ∀ p, p < n → (chi Z se (f p) (mF (Z 3) f (p + 1)) = true ↔ cF P n m (f p) ≤ mF (wH P n C m) f (p + 1) ∧ ∀ i, i < H 0 1 → H 4 i = f p → tw H i = mF (wH P n C m) f (p + 1)) := fun p hp => by
    have := Tle p
    obtain ⟨z1, z2, z3⟩ := z _ (pr.1 p hp).1
    unfold chi
    rw [Bool.and_eq_true, Bool.or_eq_true, decide_eq_true_iff, decide_eq_true_iff, decide_eq_true_iff, cg p hp, z2, z3, tSE_iff hb _ hs7 _ (by omega)]
  have so : q = m → ∀ i, i < H 0 1 → (sOk H (aT P n (Cr n f C) m) i = true ↔ mF (wH P n C m) f (g (H 4 i) + 1) = tw H i) := fun e i hi => by
    have j := J_main hn hn7 pr hm hv hw hq m (by omega)
    have h4 := hb.2.2.2.2.2 i hi
    have h5 := (hb.2.2.2.1 i (by omega)).2
    obtain ⟨i1, i2, i3, i4, i5, i6, i7⟩ := j.2 _ h4
    have ge := (pr.2 _ h4).1
    have tc : mF (wH P n C m) f (g (H 4 i) + 1) ≤ aH P n m ∨ mF (wH P n C m) f (g (H 4 i) + 1) = 1000 := by
      by_cases c : mF (wH P n C m) f (g (H 4 i) + 1) ≤ aH P n m
      · exact Or.inl c
      · refine Or.inr (Nat.le_antisymm (Tle _) (Classical.byContradiction (fun y => c ((mF_le _).mpr (fun q' hq' => ?_)))))
        have hqn := (pr.1 q' (by omega)).1
        rcases (j.2 _ hqn).2.2.2.2.2.1 with w1 | w1
        · have := mF_ge (w := wH P n C m) (f := f) hq'
          omega
        · exact w1.1
    unfold sOk tw
    rw [i7]
    by_cases c5 : H 5 i = 0
    · rw [if_pos c5, if_pos c5, decide_eq_true_iff]
      rcases tc with tc | tc
      · rw [if_pos tc]
        exact ⟨fun y => absurd y (nI_pos (by omega)), fun y => by omega⟩
      · rw [if_neg (by omega)]
        exact ⟨fun _ => tc, fun _ => by decide⟩
    · rw [if_neg c5, if_neg c5, decide_eq_true_iff]
      rcases tc with tc | tc
      · rw [if_pos tc]; exact nI_eq (by omega) (by omega)
      · rw [if_neg (by omega)]
        exact ⟨fun y => absurd y.symm (m6_ne (by omega)), fun y => by omega⟩
  constructor
  · intro h
    have hqe : q = m := by
      refine Classical.byContradiction (fun ne => ?_)
      have hlt : q < m := by omega
      have wy := hq.2.2 hlt
      have j := J_main hn hn7 pr hm hv hw hq q (Nat.le_refl _)
      obtain ⟨v1, v2⟩ := hv q hlt
      have hh := aH_le P n q
      unfold why at wy
      by_cases c2 : kd P n q < 2
      · rw [if_pos c2] at wy; exact wy rfl
      · have ce : eg P n q < n := by
          rcases act_cs hn7 v1 with ⟨c, _⟩ | ⟨c, _⟩ | ⟨_, _, c, _⟩
          · omega
          · omega
          · exact c
        obtain ⟨i1, i2, i3, i4, i5, i6, i7⟩ := j.2 _ ce
        rw [if_neg c2, if_neg (show ¬ kd P n q = 4 by omega), i1] at wy
        by_cases c : mF (wH P n C q) f (g (eg P n q) + 1) ≤ aH P n q
        · have ge := (pr.2 _ ce).1
          have same : mF (wH P n C m) f (g (eg P n q) + 1) = mF (wH P n C q) f (g (eg P n q) + 1) := mF_cg _ (fun q' hq' => by
            have := (mF_le _).mp c q' hq'
            have w := wH_st (P := P) (n := n) (C := C) (k := q) (e := f q') (by omega) (m - q)
            rw [show q + (m - q) = m by omega] at w; exact w)
          have c1 := ((ch _ ge).mp (h _ ge)).1
          rw [(pr.2 _ ce).2, same] at c1
          have c3 := cF_ge (P := P) (n := n) (j := q) (by omega) rfl (m - (q + 1))
          rw [show q + 1 + (m - (q + 1)) = m by omega] at c3
          omega
        · rw [if_neg c, if_neg (by omega), if_neg (by omega)] at wy; exact wy rfl
    refine ⟨hqe, fun i hi => (so hqe i hi).mpr ?_⟩
    have h4 := hb.2.2.2.2.2 i hi
    obtain ⟨ge, fe⟩ := pr.2 _ h4
    exact (((ch _ ge).mp (h _ ge)).2 i hi fe.symm).symm
  · intro ⟨hqe, h⟩ p hp
    refine (ch p hp).mpr ⟨?_, fun i hi h4 => ?_⟩
    · rcases cF_ex P n (f p) m with c | ⟨j, c1, c2, c3, c4⟩
      · omega
      · have wy := hq.2.1 j (by omega)
        have jj := J_main hn hn7 pr hm hv hw hq j (by omega)
        have hj := aH_le P n j
        obtain ⟨i1, i2, i3, i4, i5, i6, i7⟩ := jj.2 _ (pr.1 p hp).1
        rw [(pr.1 p hp).2] at i1
        unfold why at wy
        rw [if_neg (show ¬ kd P n j < 2 by omega), c3, i1] at wy
        by_cases c : mF (wH P n C j) f (p + 1) ≤ aH P n j
        · rw [if_pos c, if_pos rfl] at wy; omega
        · have : ∃ q', q' < p + 1 ∧ wH P n C j (f q') = 1000 := by
            refine Classical.byContradiction (fun y => c ((mF_le _).mpr (fun q' hq' => ?_)))
            rcases (jj.2 _ (pr.1 q' (by omega)).1).2.2.2.2.2.1 with w1 | w1
            · exact absurd ⟨q', hq', w1⟩ y
            · exact w1.1
          obtain ⟨q', q1, q2⟩ := this
          have g1 := wH_gt q2 (by omega) (m - j)
          rw [show j + (m - j) = m by omega] at g1
          have g2 := mF_ge (w := wH P n C m) (f := f) q1
          omega
    · have := (so hqe i hi).mp (h i hi)
      rw [h4, (pr.1 p hp).2] at this; exact this.symm
