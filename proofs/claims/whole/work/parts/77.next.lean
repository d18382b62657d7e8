theorem chk_ok {n : Nat} (h1 : 1 ≤ n) (h7 : n ≤ 7) : chkN n (lexL n n 0) = true := by
  rcases (show n < 5 ∨ n = 5 ∨ n = 6 ∨ n = 7 by omega) with h | rfl | rfl | rfl
  · exact chk_0 n h h1
  · exact chk_5
  · exact chk_6
  · exact chk_7
theorem lenE_le {n : Nat} (h7 : n ≤ 7) : (lexL n n 0).length ≤ 5040 := by
  rcases (show n < 7 ∨ n = 7 by omega) with h | rfl
  · exact len_E.2 n h
  · rw [len_E.1]; exact Nat.le_refl _
theorem mapR {n p : Nat} {g : Nat → Nat} (hp : p < n) : rw7 ((List.range n).map g) p = g p := by
  unfold rw7
  rw [List.getD_eq_getElem?_getD, List.getElem?_map, List.getElem?_range hp]; rfl
theorem chk_at {n : Nat} : ∀ (L : List (List Nat)), chkN n L = true → ∀ k, k < L.length → (k + 1 < L.length → pv (rw7 (L.getD k [])) (n - 1) ≠ 0 ∧ ∀ p, p < n → nxF n (rw7 (L.getD k [])) p = rw7 (L.getD (k + 1) []) p) ∧ (k + 1 = L.length → pv (rw7 (L.getD k [])) (n - 1) = 0)
  | [], _, k, hk => absurd hk (Nat.not_lt_zero k)
  | [l], h, k, hk => by
    have hk' : k < 1 := hk
    obtain rfl : k = 0 := by omega
    have h' : (pv (rw7 l) (n - 1) == 0) = true := h
    exact ⟨fun z => absurd z (Nat.lt_irrefl _), fun _ => by rw [beq_iff_eq] at h'; exact h'⟩
  | l :: l' :: t, h, k, hk => by
    have h' : ((pv (rw7 l) (n - 1) != 0) && ((List.range n).map (nxF n (rw7 l)) == l') && chkN n (l' :: t)) = true := h
    rw [Bool.and_eq_true, Bool.and_eq_true, bne_iff_ne, beq_iff_eq] at h'
    obtain ⟨⟨q1, q2⟩, q3⟩ := h'
    cases k with
    | zero =>
      refine ⟨fun _ => ⟨q1, fun p hp => ?_⟩, fun z => ?_⟩
      · show nxF n (rw7 l) p = rw7 l' p
        rw [← q2, mapR hp]
      · have : 0 + 1 = t.length + 1 + 1 := z
        omega
    | succ k =>
      have hk' : k + 1 < t.length + 1 + 1 := hk
      have ih := chk_at (l' :: t) q3 k (by show k < t.length + 1; omega)
      exact ⟨fun z => ih.1 (by have z' : k + 1 + 1 < t.length + 1 + 1 := z; show k + 1 < t.length + 1; omega), fun z => ih.2 (by have z' : k + 1 + 1 = t.length + 1 + 1 := z; show k + 1 = t.length + 1; omega)⟩
theorem lex_mem {n : Nat} : ∀ d b l, l ∈ lexL n d b → l.length = d ∧ (∀ i, i < d → rw7 l i < n ∧ b.testBit (rw7 l i) = false) ∧ ∀ i j, i < d → j < d → rw7 l i = rw7 l j → i = j
  | 0, b, l, h => by
    have h' : l ∈ [([] : List Nat)] := h
    rw [List.mem_singleton] at h'
    subst h'
    exact ⟨rfl, fun i hi => absurd hi (Nat.not_lt_zero i), fun i j hi => absurd hi (Nat.not_lt_zero i)⟩
  | d + 1, b, l, h => by
    have h' : l ∈ (List.range n).flatMap (fun e => if b.testBit e = true then [] else (lexL n d (b ||| 2 ^ e)).map (fun l => e :: l)) := h
    rw [List.mem_flatMap] at h'
    obtain ⟨e, he, hl⟩ := h'
    rw [List.mem_range] at he
    by_cases hb : b.testBit e = true
    · rw [if_pos hb] at hl; cases hl
    · rw [if_neg hb, List.mem_map] at hl
      obtain ⟨l', m, rfl⟩ := hl
      obtain ⟨i1, i2, i3⟩ := lex_mem d _ l' m
      have ne : ∀ i, i < d → rw7 l' i ≠ e := fun i hi z => by
        have := (i2 i hi).2
        rw [Nat.testBit_or, Nat.testBit_two_pow, z] at this; simp at this
      refine ⟨by show l'.length + 1 = _; rw [i1], fun i hi => ?_, fun i j hi hj z => ?_⟩
      · cases i with
        | zero => exact ⟨he, by show b.testBit e = false; simpa using hb⟩
        | succ i =>
          refine ⟨(i2 i (by omega)).1, ?_⟩
          have := (i2 i (by omega)).2
          rw [Nat.testBit_or, Bool.or_eq_false_iff] at this
          exact this.1
      · cases i with
        | zero =>
          cases j with
          | zero => rfl
          | succ j => exact absurd (show rw7 l' j = e from z.symm) (ne j (by omega))
        | succ i =>
          cases j with
          | zero => exact absurd (show rw7 l' i = e from z) (ne i (by omega))
          | succ j => rw [i3 i j (by omega) (by omega) z]
/-- the model's row; the next one -/
def RS (s : Hp) (n : Nat) (f : Nat → Nat) : Prop := ∀ p, p < n → s 16 p = nI (f p)
theorem change_e {s : Hp} {n a b : Nat} {f : Nat → Nat} (h : RS s n f) (hn : n ≤ 7) (ha : a < n) (hb : b < n) : ∃ s', t_X7_change (nI a) (nI b) s = some s' ∧ RS s' n (sw2 f a b) ∧ ∀ x, x ≠ 16 → s' x = s x := by
  refine ⟨hset (hset s 16 a (nI (f b))) 16 b (nI (f a)), ?_, fun p hp => ?_, fun x hx => by rw [hs_o hx, hs_o hx]⟩
  · unfold t_X7_change
    simp only [gi_in (k := a) (n := 7) (by omega) (by omega), gi_in (k := b) (n := 7) (by omega) (by omega), nI_clamp (n := a) (by omega), nI_clamp (n := b) (by omega), bnd_e, h a ha, h b hb]
  · unfold sw2
    by_cases c : p = b
    · rw [if_pos c, c, hs_eq]
    · rw [if_neg c, hs_k c]
      by_cases c2 : p = a
      · rw [if_pos c2, c2, hs_eq]
      · rw [if_neg c2, hs_k c2]; exact h p hp
theorem rev_e {N n : Nat} (hn : n ≤ 7) : ∀ d a b f s F, b ≤ a + 2 * d → a ≤ 20 → d < F → b < n → RS s n f → ∃ s', t_X7_nextRow_86 N F (nI a) (nI b) s = some (1, s') ∧ RS s' n (rv d f a b) ∧ ∀ x, x ≠ 16 → s' x = s x := by
  intro d
  induction d with
  | zero =>
    intro a b f s F h1 h0 h2 h3 h4
    obtain ⟨F, rfl⟩ : ∃ g, F = g + 1 := ⟨F - 1, by omega⟩
    exact ⟨s, if_pos (nI_le (by omega) (by omega)), h4, fun _ _ => rfl⟩
  | succ d ih =>
    intro a b f s F h1 h0 h2 h3 h4
    obtain ⟨F, rfl⟩ : ∃ g, F = g + 1 := ⟨F - 1, by omega⟩
    have u : rv (d + 1) f a b = if b ≤ a then f else rv d (sw2 f a b) (a + 1) (b - 1) := rfl
    by_cases c : b ≤ a
    · refine ⟨s, if_pos (nI_le c (by omega)), ?_, fun _ _ => rfl⟩
      rw [u, if_pos c]; exact h4
    · obtain ⟨s1, e1, r1, f1⟩ := change_e (a := a) (b := b) h4 hn (by omega) h3
      obtain ⟨s2, e2, r2, f2⟩ := ih (a + 1) (b - 1) _ s1 F (by omega) (by omega) (by omega) (by omega) r1
      refine ⟨s2, ?_, by rw [u, if_neg c]; exact r2, fun x hx => (f2 x hx).trans (f1 x hx)⟩
      show (if nI b ≤ nI a then some ((1 : Int32), s) else Option.bind (t_X7_change (nI a) (nI b) s) (fun σ1 : Hp => bnd (nI a + 1) (fun x2 : Int32 => bnd (nI b + (-1)) (fun x3 : Int32 => t_X7_nextRow_86 N F x2 x3 σ1)))) = _
      rw [if_neg (nI_ge (by omega) (by omega)), e1, bind_s, bnd_e, bnd_e, nI_1, show nI b + (-1) = nI (b - 1) by rw [show b = (b - 1) + 1 by omega, nI_m1]; rfl]
      exact e2
theorem nr7_s (N F : Nat) (v1 : Int32) (s : Hp) : t_X7_nextRow_7 N (F + 1) v1 s = (if v1 < 0 then t_X7_nextRow_34 N v1 s else gi v1 7 (gi (v1 + 1) 7 (if (s 16 v1.toNatClampNeg) ≤ (s 16 (v1 + 1).toNatClampNeg) then t_X7_nextRow_34 N v1 s else bnd (v1 + (-1)) (fun x9 : Int32 => t_X7_nextRow_7 N F x9 s)))) := rfl
theorem scan_e {N n : Nat} {f : Nat → Nat} {s : Hp} (hn : n ≤ 7) (hf : ∀ p, p < n → f p < 7) (h : RS s n f) : ∀ k F, k < F → k + 1 ≤ n → t_X7_nextRow_7 N F (nI k + (-1)) s = t_X7_nextRow_34 N (nI (pv f k) + (-1)) s := by
  intro k
  induction k with
  | zero =>
    intro F hF hk
    obtain ⟨F, rfl⟩ : ∃ g, F = g + 1 := ⟨F - 1, by omega⟩
    rw [nr7_s, if_pos nI_neg1]; rfl
  | succ k ih =>
    intro F hF hk
    obtain ⟨F, rfl⟩ : ∃ g, F = g + 1 := ⟨F - 1, by omega⟩
    have u : pv f (k + 1) = if f k ≤ f (k + 1) then k + 1 else pv f k := rfl
    have g1 := hf k (by omega)
    have g2 := hf (k + 1) (by omega)
    rw [nr7_s, nI_m1, if_neg (nI_pos (by omega)), nI_1, gi_in (by omega) (by omega), gi_in (by omega) (by omega), nI_clamp (by omega), nI_clamp (by omega), h k (by omega), h (k + 1) (by omega), le_nI (by omega) (by omega), bnd_e, ih F (by omega) (by omega), u]
    by_cases c : f k ≤ f (k + 1)
    · rw [if_pos c, if_pos c, nI_m1]
    · rw [if_neg c, if_neg c]
theorem find_e {N n i : Nat} {f : Nat → Nat} {s : Hp} (hn : n ≤ 7) (hf : ∀ p, p < n → f p < 7) (h : RS s n f) (hi : f i ≤ f (i + 1)) : ∀ j F, j < F → i + 1 ≤ j → j < n → jv f i j < n ∧ i < jv f i j ∧ t_X7_nextRow_47 N F (nI i) (nI j) s = Option.bind (t_X7_change (nI i) (nI (jv f i j)) s) (fun σ4 : Hp => bnd (nI i + 1) (fun x5 : Int32 => bnd ((σ4 0 0) - 1) (fun x6 : Int32 => t_X7_nextRow_86 N N x5 x6 σ4))) := by
  intro j
  induction j with
  | zero => intro F hF hj; omega
  | succ j ih =>
    intro F hF hj hjn
    obtain ⟨F, rfl⟩ : ∃ g, F = g + 1 := ⟨F - 1, by omega⟩
    have u : jv f i (j + 1) = if f i ≤ f (j + 1) then j + 1 else jv f i j := rfl
    have g1 := hf i (by omega)
    have g2 := hf (j + 1) (by omega)
    have st : t_X7_nextRow_47 N (F + 1) (nI i) (nI (j + 1)) s = if f i ≤ f (j + 1) then Option.bind (t_X7_change (nI i) (nI (j + 1)) s) (fun σ4 : Hp => bnd (nI i + 1) (fun x5 : Int32 => bnd ((σ4 0 0) - 1) (fun x6 : Int32 => t_X7_nextRow_86 N N x5 x6 σ4))) else t_X7_nextRow_47 N F (nI i) (nI j) s := by
      show gi (nI (j + 1)) 7 (gi (nI i) 7 (if (s 16 (nI i).toNatClampNeg) ≤ (s 16 (nI (j + 1)).toNatClampNeg) then Option.bind (t_X7_change (nI i) (nI (j + 1)) s) (fun σ4 : Hp => bnd (nI i + 1) (fun x5 : Int32 => bnd ((σ4 0 0) - 1) (fun x6 : Int32 => t_X7_nextRow_86 N N x5 x6 σ4))) else bnd (nI (j + 1) + (-1)) (fun x7 : Int32 => t_X7_nextRow_47 N F (nI i) x7 s))) = _
      rw [gi_in (by omega) (by omega), gi_in (by omega) (by omega), nI_clamp (by omega), nI_clamp (by omega), h i (by omega), h (j + 1) hjn, le_nI (by omega) (by omega), bnd_e, nI_m1]
    rw [st, u]
    by_cases c : f i ≤ f (j + 1)
    · rw [if_pos c, if_pos c]; exact ⟨hjn, by omega, rfl⟩
    · have hne : j + 1 ≠ i + 1 := fun z => c (by rw [show j = i by omega]; exact hi)
      rw [if_neg c, if_neg c]; exact ih F (by omega) (by omega) (by omega)
theorem pv_i {f : Nat → Nat} : ∀ k, pv f k ≠ 0 → pv f k ≤ k ∧ f (pv f k - 1) ≤ f (pv f k - 1 + 1)
  | 0, h => absurd rfl h
  | k + 1, h => by
    have u : pv f (k + 1) = if f k ≤ f (k + 1) then k + 1 else pv f k := rfl
    rw [u] at h ⊢
    by_cases c : f k ≤ f (k + 1)
    · rw [if_pos c]; exact ⟨Nat.le_refl _, c⟩
    · rw [if_neg c] at h ⊢
      have ih := pv_i k h
      exact ⟨by omega, ih.2⟩
theorem nextRow_e {N n : Nat} {f : Nat → Nat} {s : Hp} (hN : 20 < N) (h1 : 1 ≤ n) (hn : n ≤ 7) (hf : ∀ p, p < n → f p < 7) (h : RS s n f) (h0 : s 0 0 = nI n) : (pv f (n - 1) = 0 → t_X7_nextRow N s = some (0, s)) ∧ (pv f (n - 1) ≠ 0 → ∃ s', t_X7_nextRow N s = some (1, s') ∧ RS s' n (nxF n f) ∧ ∀ x, x ≠ 16 → s' x = s x) := by
  have st : t_X7_nextRow N s = t_X7_nextRow_34 N (nI (pv f (n - 1)) + (-1)) s := by
    unfold t_X7_nextRow
    rw [bnd_e, h0, show nI n - 2 = nI (n - 1) + (-1) by
      rcases (show n = 1 ∨ n = 2 ∨ n = 3 ∨ n = 4 ∨ n = 5 ∨ n = 6 ∨ n = 7 by omega) with rfl | rfl | rfl | rfl | rfl | rfl | rfl <;> decide]
    exact scan_e hn hf h (n - 1) N (by omega) (by omega)
  rw [st]
  unfold t_X7_nextRow_34
  constructor
  · intro z
    rw [z, if_neg (by decide)]
  · intro z
    obtain ⟨q1, q2⟩ := pv_i (n - 1) z
    obtain ⟨i, hi⟩ : ∃ i, pv f (n - 1) = i + 1 := ⟨pv f (n - 1) - 1, by omega⟩
    rw [hi] at q1 q2
    have q2' : f i ≤ f (i + 1) := q2
    obtain ⟨a1, a2, a3⟩ := find_e (N := N) hn hf h q2' (n - 1) N (by omega) (by omega) (by omega)
    obtain ⟨s1, e1, r1, f1⟩ := change_e (a := i) (b := jv f i (n - 1)) h hn (by omega) a1
    obtain ⟨s2, e2, r2, f2⟩ := rev_e (N := N) hn 4 (i + 1) (n - 1) _ s1 N (by omega) (by omega) (by omega) (by omega) r1
    refine ⟨s2, ?_, ?_, fun x hx => (f2 x hx).trans (f1 x hx)⟩
    · rw [hi, nI_m1, if_pos (nI_pos' (by omega)), bnd_e, h0, show (1 : Int32) = nI 1 from rfl, pk_sub h1, a3, e1, bind_s, bnd_e, bnd_e, f1 0 (by decide), h0, show (1 : Int32) = nI 1 from rfl, pk_sub h1, nI_add]
      exact e2
    · unfold nxF; rw [hi]; exact r2
