/-! the pad read as a week -/
def okS (n : Nat) (pd : Bool) (x : Nat) : Bool := if pd = true then hsg x || (x == 33 || x == 43) else dgt n x || (x == 46 || hsg x)
def nxS (n : Nat) (pd : Bool) (x : Nat) : Bool := !pd && dgt n x
def wF (P : Nat → Nat) (n pn : Nat) : Nat → Nat → Bool → Int32
  | 0, _, pd => if pd = true then nI pn else (-6)
  | d + 1, i, pd => if okS n pd (P i) = true then wF P n pn d (i + 1) (nxS n pd (P i)) else nI i
def ps (P : Nat → Nat) (n : Nat) : Nat → Nat
  | 0 => 0
  | k + 1 => ps P n k + if dgt n (P (ps P n k)) = true then 2 else 1
def kd (P : Nat → Nat) (n k : Nat) : Nat := if dgt n (P (ps P n k)) = true then (if hsg (P (ps P n k + 1)) = true then 2 else if P (ps P n k + 1) = 33 then 3 else 4) else if P (ps P n k) = 46 then 0 else 1
def eg (P : Nat → Nat) (n k : Nat) : Nat := P (ps P n k) - 48
def ahs (P : Nat → Nat) (n k : Nat) : Nat := if dgt n (P (ps P n k)) = true then P (ps P n k + 1) - 65 else P (ps P n k) - 65
def vld (P : Nat → Nat) (n k : Nat) : Prop := (dgt n (P (ps P n k)) = true → okS n true (P (ps P n k + 1)) = true) ∧ (dgt n (P (ps P n k)) = false → okS n false (P (ps P n k)) = true)
def mar (P : Nat → Nat) (n : Nat) : Nat → Bool
  | 0 => false
  | m + 1 => mar P n m || decide (3 ≤ kd P n m)
theorem kd_le (P : Nat → Nat) (n k : Nat) : kd P n k ≤ 4 := by
  unfold kd; split
  · split
    · omega
    · split <;> omega
  · split <;> omega
theorem eoma_e {σ : Hp} {pn i : Nat} {P : Nat → Nat} (h : PadX σ pn P) (hi : i < 60) : t_X3_eatsOrMendsAt (nI i) σ = some (bI (P i == 33 || P i == 43)) := by
  have hx := (h.2.2 i hi).2
  unfold t_X3_eatsOrMendsAt t_X3_eatsOrMendsAt_20
  rw [sign_e h hi, bind_s, bind_s, show (33 : Int32) = nI 33 from rfl, show (43 : Int32) = nI 43 from rfl, eq_nI (by omega) (by omega), eq_nI (by omega) (by omega)]
  by_cases h1 : P i = 33
  · rw [if_pos h1, h1]; rfl
  · rw [if_neg h1]
    by_cases h2 : P i = 43
    · rw [if_pos h2, h2]; rfl
    · rw [if_neg h2, show (P i == 33) = false by simp [h1], show (P i == 43) = false by simp [h2]]; rfl
theorem dgt_x {n x : Nat} (hn : n ≤ 7) (h : dgt n x = true) : hsg x = false ∧ (x == 46) = false := by
  have d := dgt_i h
  refine ⟨?_, by simp; omega⟩
  unfold hsg; rw [show decide (65 ≤ x) = false by simp; omega]; rfl
theorem weekX_e {σ : Hp} {N n pn : Nat} {P : Nat → Nat} (h : PadX σ pn P) (hn : n ≤ 7) (hN : 60 < N) : t_X3_weekFault N (nI n) σ = some (wF P n pn pn 0 false) := by
  have hp := h.2.1
  have key : ∃ q, t_X3_weekFault N (nI n) σ = some q ∧ q = wF P n pn pn 0 false := by
    unfold t_X3_weekFault t_X3_weekFault_4
    refine li4 _ (fun i v1 v2 v3 s => v1 = nI n ∧ v3 = nI i ∧ s = σ ∧ ∃ pd, v2 = bI pd ∧ wF P n pn (pn - i) i pd = wF P n pn pn 0 false) _ pn ?_ ?_ N (nI n) 0 0 σ (by omega) ⟨rfl, rfl, rfl, false, rfl, rfl⟩
    · intro i v1 v2 v3 s hi ⟨a1, a2, a3, pd, a4, a5⟩
      subst a1; subst a2; subst a3; subst a4
      have hx := (h.2.2 i (by omega)).2
      have u : wF P n pn (pn - i) i pd = if okS n pd (P i) = true then wF P n pn (pn - (i + 1)) (i + 1) (nxS n pd (P i)) else nI i := by
        rw [show pn - i = (pn - (i + 1)) + 1 by omega]; rfl
      rw [a5] at u
      have fr : ∀ k : Int32 → Int32 → Int32 → Hp → Option Int32, (if (s 31 0) ≤ (nI i) then if (bI pd) = 0 then some (-6) else some (s 31 0) else if (bI pd) = 0 then Option.bind (t_X3_isDigitOfEgg (nI i) (nI n) s) (fun r2 : Int32 => if r2 = 0 then Option.bind (t_X3_sign (nI i) s) (fun r3 : Int32 => if r3 = 46 then t_X3_weekFault_79 N k (nI n) (bI pd) (nI i) s else Option.bind (t_X3_sign (nI i) s) (fun r4 : Int32 => Option.bind (t_X6_isHouseSign r4) (fun r5 : Int32 => if r5 = 0 then some (nI i) else t_X3_weekFault_79 N k (nI n) (bI pd) (nI i) s))) else t_X3_weekFault_79 N k (nI n) 1 (nI i) s) else Option.bind (t_X3_sign (nI i) s) (fun r6 : Int32 => Option.bind (t_X6_isHouseSign r6) (fun r7 : Int32 => if r7 = 0 then Option.bind (t_X3_eatsOrMendsAt (nI i) s) (fun r8 : Int32 => if r8 = 0 then some (nI i) else t_X3_weekFault_37 N k (nI n) (nI i) s) else t_X3_weekFault_37 N k (nI n) (nI i) s))) = if okS n pd (P i) = true then k (nI n) (bI (nxS n pd (P i))) (nI (i + 1)) s else some (nI i) := by
        intro k
        unfold t_X3_weekFault_37 t_X3_weekFault_79
        rw [h.1, if_neg (nI_ge hi (by omega))]
        simp only [isDigit_e h (show i < 60 by omega) (show n < 8 by omega), sign_e h (show i < 60 by omega), bind_s, hsg_w _ hx, eoma_e h (show i < 60 by omega), bI_0, bnd_e, nI_1, show (46 : Int32) = nI 46 from rfl, nI_E (a := P i) (b := 46) (by omega) (by omega)]
        unfold okS nxS
        cases pd
        · cases hd : dgt n (P i)
          · by_cases h46 : P i = 46
            · simp [h46]
            · simp [h46]
          · simp; rfl
        · cases hsg (P i) <;> cases (P i == 33 || P i == 43) <;> rfl
      by_cases c : okS n pd (P i) = true
      · rw [if_pos c] at u
        exact Or.inr ⟨nI n, bI (nxS n pd (P i)), nI (i + 1), s, ⟨rfl, rfl, rfl, _, rfl, u.symm⟩, fun k => (fr k).trans (if_pos c)⟩
      · rw [if_neg c] at u
        exact Or.inl ⟨nI i, u.symm, fun k => (fr k).trans (if_neg c)⟩
    · intro v1 v2 v3 s ⟨a1, a2, a3, pd, a4, a5⟩
      subst a1; subst a2; subst a3; subst a4
      rw [Nat.sub_self] at a5
      refine ⟨wF P n pn 0 pn pd, a5, fun k => ?_⟩
      show (if s 31 0 ≤ nI pn then (if bI pd = 0 then some (-6) else some (s 31 0)) else _) = _
      rw [h.1, if_pos (nI_le (Nat.le_refl _) (by omega)), bI_0]
      cases pd <;> rfl
  obtain ⟨q, q1, q2⟩ := key
  rw [q1, q2]
theorem wF_v {P : Nat → Nat} {n pn : Nat} (hp : pn ≤ 60) : ∀ d i pd, i + d = pn → wF P n pn d i pd = (-6) ∨ ∃ k, k ≤ 60 ∧ wF P n pn d i pd = nI k
  | 0, i, pd, hi => by
    cases pd
    · exact Or.inl rfl
    · exact Or.inr ⟨pn, hp, rfl⟩
  | d + 1, i, pd, hi => by
    have ih := wF_v (P := P) (n := n) hp d (i + 1) (nxS n pd (P i)) (by omega)
    unfold wF
    by_cases c : okS n pd (P i) = true
    · rw [if_pos c]; exact ih
    · rw [if_neg c]; exact Or.inr ⟨i, by omega, rfl⟩
/-- what the model's reading of a week leaves alone -/
def WFr (τ s : Hp) : Prop := (∀ a, a ≠ 0 → a ≠ 13 → a ≠ 14 → a ≠ 15 → s a = τ a) ∧ ∀ j, j ≠ 20 → j ≠ 21 → s 0 j = τ 0 j
theorem WFr_MF {τ s : Hp} (h : WFr τ s) : MF τ s := ⟨fun a _ _ => h.1 a (by omega) (by omega) (by omega) (by omega), h.1 25 (by omega) (by omega) (by omega) (by omega), h.1 26 (by omega) (by omega) (by omega) (by omega), h.2 0 (by omega) (by omega), h.2 7 (by omega) (by omega), h.2 11 (by omega) (by omega), h.2 14 (by omega) (by omega), h.2 16 (by omega) (by omega)⟩
theorem MF_RM {τ s : Hp} {C : Cp} (h : MF τ s) (r : RM τ C) : RM s C := RM_f r (fun a h1 h2 => h.1 a h1 (by omega)) h.2.2.2.1 h.2.2.2.2.1
theorem MF_pad {τ s : Hp} {pn : Nat} {P : Nat → Nat} (h : MF τ s) (r : PadM τ pn P) : PadM s pn P := by
  unfold PadM at *; rw [h.2.2.2.2.2.2.2, h.1 12 (by omega) (by omega)]; exact r
def WArr (P : Nat → Nat) (n : Nat) (s : Hp) (m : Nat) : Prop := ∀ k, k < m → vld P n k ∧ s 13 k = nI (kd P n k) ∧ (2 ≤ kd P n k → s 14 k = nI (eg P n k)) ∧ (kd P n k = 1 ∨ kd P n k = 2 → s 15 k = nI (ahs P n k))
def actS (s : Hp) (m kind : Nat) (v : Int32) (mr : Bool) : Hp := hset (hset (hset (hset s 13 m (nI kind)) 15 m v) 0 21 (bI mr)) 0 20 (nI (m + 1))
theorem actS_fr {τ s : Hp} {m kind : Nat} {v : Int32} {mr : Bool} (h : WFr τ s) : WFr τ (actS s m kind v mr) := by
  unfold actS
  exact ⟨fun a h0 h1 h2 h3 => by simp (disch := omega) only [hs_o, hs_k]; exact h.1 a h0 h1 h2 h3, fun j h1 h2 => by rw [hs_k h1, hs_k h2]; simp (disch := omega) only [hs_o, hs_k]; exact h.2 j h1 h2⟩
theorem actS_arr {P : Nat → Nat} {n m kind : Nat} {s : Hp} {v : Int32} {mr : Bool} (h : WArr P n s m) (h1 : vld P n m) (h2 : kd P n m = kind) (h3 : 2 ≤ kind → s 14 m = nI (eg P n m)) (h4 : kind = 1 ∨ kind = 2 → v = nI (ahs P n m)) : WArr P n (actS s m kind v mr) (m + 1) := by
  unfold actS
  intro k hk
  rcases (show k = m ∨ k < m by omega) with rfl | hk2
  · rw [h2]
    exact ⟨h1, by rw [hs_o (by decide), hs_o (by decide), hs_o (by decide), hs_eq], fun z => by simp (disch := omega) only [hs_o, hs_k]; exact h3 z, fun z => by rw [hs_o (by decide), hs_o (by decide), hs_eq]; exact h4 z⟩
  · obtain ⟨a1, a2, a3, a4⟩ := h k hk2
    exact ⟨a1, by simp (disch := omega) only [hs_o, hs_k]; exact a2, fun z => by simp (disch := omega) only [hs_o, hs_k]; exact a3 z, fun z => by simp (disch := omega) only [hs_o, hs_k]; exact a4 z⟩
theorem w182 {N i m kind : Nat} {s : Hp} {mr : Bool} {v3 v6 : Int32} (k : Int32 → Int32 → Hp → Option (Int32 × Hp)) (hm : m < 60) (hk : kind ≤ 4) (h20 : s 0 20 = nI m) (h21 : s 0 21 = bI mr) : t_X7_faultOfWeek_182 N k (nI i) v3 v6 (nI m) (nI kind) s = k v6 (nI (i + 1)) (actS s m kind (v3 - 65) (mr || decide (3 ≤ kind))) := by
  unfold t_X7_faultOfWeek_182 t_X7_faultOfWeek_217 t_X7_faultOfWeek_222 t_X7_faultOfWeek_235
  have e1 : (hset s 13 m (nI kind)) 0 20 = nI m := by rw [hs_o (by decide)]; exact h20
  have e2 : (hset (hset s 13 m (nI kind)) 15 m (v3 - 65)) 0 20 = nI m := by rw [hs_o (by decide)]; exact e1
  have e3 : (hset (hset s 13 m (nI kind)) 15 m (v3 - 65)) 0 21 = bI mr := by rw [hs_o (by decide), hs_o (by decide)]; exact h21
  have e4 : (hset (hset s 13 m (nI kind)) 15 m (v3 - 65)) 13 m = nI kind := by rw [hs_o (by decide), hs_eq]
  have e5 : ∀ x : Int32, (hset (hset (hset s 13 m (nI kind)) 15 m (v3 - 65)) 0 21 x) 0 20 = nI m := fun x => by rw [hs_k (by decide)]; exact e2
  simp only [gi_in (k := m) (n := 60) hm (by omega), nI_clamp (n := m) (by omega), bnd_e, e1, e2, e3, e4, e5, zb_0, nI_1]
  rw [bI_0, show (2 : Int32) = nI 2 from rfl, le_nI (by omega) (by omega), show (0 : Int32) = bI false from rfl, show (1 : Int32) = bI true from rfl, zb_I, zb_I]
  unfold actS
  cases mr
  · rw [if_neg (by decide)]
    by_cases hk2 : kind ≤ 2
    · rw [if_pos hk2, show decide (3 ≤ kind) = false by simp; omega]; rfl
    · rw [if_neg hk2, show decide (3 ≤ kind) = true by simp; omega]; rfl
  · rw [if_pos rfl]; rfl
def fwF (N : Nat) (k14 : Int32 → Int32 → Hp → Option (Int32 × Hp)) (v1 : Int32) (v2 : Int32) (σ : Hp) : Option (Int32 × Hp) := if (σ 0 16) ≤ v2 then if v1 = 0 then some ((-6), σ) else some ((σ 0 16), σ) else gi v2 60 (bnd (σ 12 v2.toNatClampNeg) (fun x8 : Int32 => Option.bind (t_X7_isHouse (x8 - 65)) (fun r9 : Int32 => if r9 = 0 then if v1 = 0 then if x8 = 46 then t_X7_faultOfWeek_79 N k14 v1 v2 x8 r9 σ else Option.bind (t_X7_isEgg (x8 - 48) σ) (fun r10 : Int32 => if r10 = 0 then t_X7_faultOfWeek_83 N k14 v1 v2 x8 r9 σ else t_X7_faultOfWeek_79 N k14 v1 v2 x8 r9 σ) else if x8 = 33 then t_X7_faultOfWeek_79 N k14 v1 v2 x8 r9 σ else if x8 = 43 then t_X7_faultOfWeek_79 N k14 v1 v2 x8 r9 σ else t_X7_faultOfWeek_83 N k14 v1 v2 x8 r9 σ else t_X7_faultOfWeek_79 N k14 v1 v2 x8 r9 σ)))
def kS (pd : Bool) (x : Nat) : Nat := if x = 46 then 0 else if hsg x = true then (if pd = true then 2 else 1) else if x = 33 then 3 else 4
theorem fwF_e {N i m pn : Nat} {P : Nat → Nat} {C : Cp} {s : Hp} {pd mr : Bool} (k : Int32 → Int32 → Hp → Option (Int32 × Hp)) (r : RM s C) (bc : BC C) (h : PadM s pn P) (hi : i < pn) (hm : m < 60) (h20 : s 0 20 = nI m) (h21 : s 0 21 = bI mr) : fwF N k (bI pd) (nI i) s = if okS (C 0 0) pd (P i) = true then (if nxS (C 0 0) pd (P i) = true then k (bI true) (nI (i + 1)) (hset s 14 m (nI (P i - 48))) else k (bI false) (nI (i + 1)) (actS s m (kS pd (P i)) (nI (P i) - 65) (mr || decide (3 ≤ kS pd (P i))))) else some (nI i, s) := by
  have hp := h.2.1
  have hb := bc.1
  obtain ⟨hx0, hx⟩ := h.2.2 i (by omega)
  obtain ⟨x, hxx⟩ : ∃ x, P i = x := ⟨_, rfl⟩
  rw [hxx] at hx hx0 ⊢
  have ig := isEggS r bc hx
  have hw := fun kind hk v6 => w182 (N := N) (i := i) (m := m) (kind := kind) (s := s) (mr := mr) (v3 := nI x) (v6 := v6) k hm hk h20 h21
  have w0 := hw 0 (by omega)
  have w1 := hw 1 (by omega)
  have w2 := hw 2 (by omega)
  have w3 := hw 3 (by omega)
  have w4 := hw 4 (by omega)
  unfold fwF t_X7_faultOfWeek_79 t_X7_faultOfWeek_83 t_X7_faultOfWeek_84 t_X7_faultOfWeek_112 t_X7_faultOfWeek_113 t_X7_faultOfWeek_235
  rw [h.1, if_neg (nI_ge hi (by omega)), gi_in (by omega) (by omega), nI_clamp (by omega), hx0, bnd_e, hsg_g x hx, bind_s, ig]
  simp only [bind_s, bI_0, h20, gi_in (k := m) (n := 60) hm (by omega), nI_clamp (n := m) (by omega), bnd_e, nI_1, show (46 : Int32) = nI 46 from rfl, show (33 : Int32) = nI 33 from rfl, show (43 : Int32) = nI 43 from rfl, nI_E (a := x) (b := 46) (by omega) (by omega), nI_E (a := x) (b := 33) (by omega) (by omega), nI_E (a := x) (b := 43) (by omega) (by omega), if_true, show ¬ (1 : Int32) = 0 by decide, if_false]
  rw [show (0 : Int32) = nI 0 from rfl, show (1 : Int32) = nI 1 from rfl, show (2 : Int32) = nI 2 from rfl, show (3 : Int32) = nI 3 from rfl, show (4 : Int32) = nI 4 from rfl, w0, w1, w2, w3, w4]
  unfold okS nxS kS
  cases hh : hsg x
  · cases pd
    · by_cases h46 : x = 46
      · subst h46
        have hd : dgt (C 0 0) 46 = false := by unfold dgt; rfl
        simp [hd]; rfl
      · cases hd : dgt (C 0 0) x
        · simp [h46]
        · have d := dgt_i hd
          simp [h46, show (48 : Int32) = nI 48 from rfl, pk_sub d.1]; rfl
    · by_cases h33 : x = 33
      · subst h33; simp; rfl
      · by_cases h43 : x = 43
        · subst h43; simp; rfl
        · simp [h33, h43]
  · have hg := hsg_i hh
    have h46 : ¬ x = 46 := by omega
    have h33 : ¬ x = 33 := by omega
    have hd : dgt (C 0 0) x = false := by
      cases hd : dgt (C 0 0) x
      · rfl
      · have := dgt_i hd; omega
    cases pd
    · simp [hd, h46]; rfl
    · simp [h46]; rfl
def WOK (P : Nat → Nat) (n pn : Nat) (s : Hp) : Prop := ∃ m, s 0 20 = nI m ∧ s 0 21 = bI (mar P n m) ∧ ps P n m = pn ∧ m ≤ pn ∧ WArr P n s m
theorem weekM_e {τ : Hp} {N pn : Nat} {P : Nat → Nat} {C : Cp} (r : RM τ C) (bc : BC C) (h : PadM τ pn P) (hN : 60 < N) : ∃ τ', t_X7_faultOfWeek N τ = some (wF P (C 0 0) pn pn 0 false, τ') ∧ WFr τ τ' ∧ (wF P (C 0 0) pn pn 0 false = (-6) → WOK P (C 0 0) pn τ') := by
  have hp := h.2.1
  have hb := bc.1
  obtain ⟨n, hn⟩ : ∃ n, C 0 0 = n := ⟨_, rfl⟩
  have key : ∃ q : Int32 × Hp, t_X7_faultOfWeek N τ = some q ∧ (q.1 = wF P n pn pn 0 false ∧ WFr τ q.2 ∧ (q.1 = (-6) → WOK P n pn q.2)) := by
    unfold t_X7_faultOfWeek t_X7_faultOfWeek_14
    rw [bnd_e, bnd_e]
    refine li3 _ (fun i v1 v2 s => v2 = nI i ∧ WFr τ s ∧ ∃ pd m, v1 = bI pd ∧ s 0 20 = nI m ∧ s 0 21 = bI (mar P n m) ∧ m ≤ i ∧ WArr P n s m ∧ (pd = false → ps P n m = i) ∧ (pd = true → ps P n m + 1 = i ∧ dgt n (P (ps P n m)) = true ∧ s 14 m = nI (eg P n m)) ∧ wF P n pn (pn - i) i pd = wF P n pn pn 0 false) _ pn ?_ ?_ N 0 0 _ (by omega) ⟨rfl, ⟨fun a h0 _ _ _ => by simp (disch := omega) only [hs_o, hs_k], fun j h1 h2 => by rw [hs_k h2, hs_k h1]⟩, false, 0, rfl, by rw [hs_k (by decide), hs_eq]; rfl, by rw [hs_eq]; rfl, Nat.le_refl _, fun k hk => absurd hk (Nat.not_lt_zero k), fun _ => rfl, fun z => absurd z (by decide), rfl⟩
    · intro i v1 v2 s hi ⟨a1, a2, pd, m, a3, a4, a5, a6, a7, a8, a9, a10⟩
      subst a1; subst a3
      have rs := MF_RM (WFr_MF a2) r
      have pds := MF_pad (WFr_MF a2) h
      have hx := (h.2.2 i (by omega)).2
      have u : wF P n pn (pn - i) i pd = if okS n pd (P i) = true then wF P n pn (pn - (i + 1)) (i + 1) (nxS n pd (P i)) else nI i := by
        rw [show pn - i = (pn - (i + 1)) + 1 by omega]; rfl
      rw [a10] at u
      have fr := fun k => fwF_e (N := N) (pd := pd) k rs bc pds hi (show m < 60 by omega) a4 a5
      rw [hn] at fr
      by_cases c : okS n pd (P i) = true
      · rw [if_pos c] at u
        by_cases c2 : nxS n pd (P i) = true
        · have fr := fun k => ((fr k).trans (if_pos c)).trans (if_pos c2)
          rw [c2] at u
          have c3 : pd = false ∧ dgt n (P i) = true := by
            unfold nxS at c2; rw [Bool.and_eq_true] at c2
            exact ⟨by cases pd; rfl; exact absurd c2.1 (by decide), c2.2⟩
          have p8 := a8 c3.1
          refine Or.inr ⟨bI true, nI (i + 1), hset s 14 m (nI (P i - 48)), ⟨rfl, ⟨fun a h0 h1 h2 h3 => by rw [hs_o h2]; exact a2.1 a h0 h1 h2 h3, fun j h1 h2 => by rw [hs_o (by decide)]; exact a2.2 j h1 h2⟩, true, m, rfl, by rw [hs_o (by decide)]; exact a4, by rw [hs_o (by decide)]; exact a5, by omega, fun k hk => ?_, fun z => absurd z (by decide), fun _ => ⟨by omega, by rw [p8]; exact c3.2, by rw [hs_eq]; unfold eg; rw [p8]⟩, u.symm⟩, fr⟩
          obtain ⟨b1, b2, b3, b4⟩ := a7 k hk
          exact ⟨b1, by rw [hs_o (by decide)]; exact b2, fun z => by rw [hs_k (by omega)]; exact b3 z, fun z => by rw [hs_o (by decide)]; exact b4 z⟩
        · have fr := fun k => ((fr k).trans (if_pos c)).trans (if_neg c2)
          have c2' : nxS n pd (P i) = false := by simpa using c2
          rw [c2'] at u
          have hkd : kd P n m = kS pd (P i) ∧ vld P n m ∧ (2 ≤ kS pd (P i) → s 14 m = nI (eg P n m)) ∧ (kS pd (P i) = 1 ∨ kS pd (P i) = 2 → nI (P i) - 65 = nI (ahs P n m)) ∧ ps P n (m + 1) = i + 1 := by
            have h65 : hsg (P i) = true → nI (P i) - 65 = nI (P i - 65) := fun z => by
              rw [show (65 : Int32) = nI 65 from rfl, pk_sub (hsg_i z).1]
            cases hpd : pd
            · rw [hpd] at c c2'
              have p8 := a8 hpd
              have hd : dgt n (P i) = false := c2'
              have ok : (P i == 46 || hsg (P i)) = true := by
                unfold okS at c; rw [if_neg (by decide), hd, Bool.false_or] at c; exact c
              have k1 : kd P n m = if P i = 46 then 0 else 1 := by unfold kd; rw [p8, hd, if_neg (by decide)]
              have k2 : kS false (P i) = if P i = 46 then 0 else 1 := by
                unfold kS
                by_cases h46 : P i = 46
                · rw [if_pos h46, if_pos h46]
                · have : hsg (P i) = true := by simpa [h46] using ok
                  rw [if_neg h46, if_pos this, if_neg h46, if_neg (by decide)]
              rw [k1, k2]
              refine ⟨rfl, ⟨fun z => ?_, fun _ => by rw [p8]; exact c⟩, fun z => ?_, fun z => ?_, ?_⟩
              · rw [p8, hd] at z; exact absurd z (by decide)
              · exfalso; split at z <;> omega
              · by_cases h46 : P i = 46
                · rw [if_pos h46] at z; exfalso; omega
                · have : hsg (P i) = true := by simpa [h46] using ok
                  rw [h65 this]; unfold ahs; rw [p8, hd, if_neg (by decide)]
              · show ps P n m + (if dgt n (P (ps P n m)) = true then 2 else 1) = _
                rw [p8, hd, if_neg (by decide)]
            · rw [hpd] at c c2'
              obtain ⟨p9, d9, e9⟩ := a9 hpd
              have ok : (hsg (P i) || (P i == 33 || P i == 43)) = true := by
                unfold okS at c; rw [if_pos rfl] at c; exact c
              have n46 : ¬ P i = 46 := by
                intro z; rw [z] at ok; exact absurd ok (by decide)
              have k1 : kd P n m = if hsg (P i) = true then 2 else if P i = 33 then 3 else 4 := by unfold kd; rw [if_pos d9, p9]
              have k2 : kS true (P i) = if hsg (P i) = true then 2 else if P i = 33 then 3 else 4 := by
                unfold kS; rw [if_neg n46, if_pos (rfl : true = true)]
              rw [k1, k2]
              refine ⟨rfl, ⟨fun _ => by rw [p9]; exact c, fun z => ?_⟩, fun z => e9, fun z => ?_, ?_⟩
              · rw [d9] at z; exact absurd z (by decide)
              · by_cases hh : hsg (P i) = true
                · rw [h65 hh]; unfold ahs; rw [if_pos d9, p9]
                · rw [if_neg hh] at z; exfalso; split at z <;> omega
              · show ps P n m + (if dgt n (P (ps P n m)) = true then 2 else 1) = _
                rw [if_pos d9]; omega
          obtain ⟨q1, q2, q3, q4, q5⟩ := hkd
          refine Or.inr ⟨bI false, nI (i + 1), _, ⟨rfl, actS_fr a2, false, m + 1, rfl, hs_eq, ?_, by omega, actS_arr a7 q2 q1 q3 q4, fun _ => q5, fun z => absurd z (by decide), u.symm⟩, fr⟩
          unfold actS; rw [hs_k (by decide), hs_eq, ← q1]; rfl
      · rw [if_neg c] at u
        exact Or.inl ⟨(nI i, s), ⟨u.symm, a2, fun z => absurd z (m6_ne (by omega))⟩, fun k => (fr k).trans (if_neg c)⟩
    · intro v1 v2 s ⟨a1, a2, pd, m, a3, a4, a5, a6, a7, a8, a9, a10⟩
      subst a1; subst a3
      rw [Nat.sub_self] at a10
      refine ⟨(wF P n pn 0 pn pd, s), ⟨a10, a2, fun z => ⟨m, a4, a5, ?_, a6, a7⟩⟩, fun k => ?_⟩
      · cases pd
        · exact a8 rfl
        · exact absurd z (m6_ne (by omega))
      · have pds := MF_pad (WFr_MF a2) h
        show (if s 0 16 ≤ nI pn then (if bI pd = 0 then some ((-6 : Int32), s) else some (s 0 16, s)) else _) = _
        rw [pds.1, if_pos (nI_le (Nat.le_refl _) (by omega)), bI_0]
        cases pd <;> rfl
  obtain ⟨⟨q, s⟩, q1, q2, q3, q4⟩ := key
  rw [hn]
  exact ⟨s, by rw [q1]; exact congrArg (fun z => some (z, s)) q2, q3, fun z => q4 (q2.trans z)⟩
theorem k_fault {N : Nat} (hN : 60 < N) {σ τ : Hp} (hR : Rl σ τ) (p0 : Int32) : ∃ r : Int32, ∃ τ1 : Hp, t_X6_fault N p0 σ = some r ∧ t_X7_fault N p0 τ = some (r, τ1) ∧ Rl σ τ1 := by
  obtain ⟨C, H, pn, P, h1, h2, h3, h4, h5, h6, h7, h8, h9⟩ := id hR
  have hb := h3.1
  obtain ⟨t, e1, e2, e3⟩ := weekM_e h2 h3 (RP_M h7) hN
  unfold t_X6_fault t_X7_fault
  rw [isWithin_e, bind_s]
  by_cases hq : p0 < 0 ∨ 1 < p0
  · rw [ite_0 hq, if_neg (fun z => hq.elim (fun w => by rw [z] at w; exact absurd w (by decide)) (fun w => by rw [z] at w; exact absurd w (by decide))), if_neg (fun z => hq.elim (fun w => by rw [z] at w; exact absurd w (by decide)) (fun w => by rw [z] at w; exact absurd w (by decide)))]
    exact ⟨_, _, rfl, rfl, hR⟩
  obtain ⟨w, hw, rfl⟩ := rng_c (p := p0) (m := 1) (by decide) hq
  rw [ite_1 hq, h1.1, ordX_e (RP_X h7) hb.2 hN, weekX_e (RP_X h7) hb.2 hN, ordM_e h2 h3 (RP_M h7) hN, e1]
  rcases (show w = 0 ∨ w = 1 by omega) with rfl | rfl
  · exact ⟨_, _, rfl, rfl, hR⟩
  · exact ⟨_, _, rfl, rfl, Rl_fr hR XF_rf (WFr_MF e2)⟩
