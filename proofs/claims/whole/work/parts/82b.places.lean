/-! the model: a row's places, its clues, what is counted -/
def ix : List Nat → Nat → Nat
  | [], _ => 0
  | x :: l, e => if x = e then 0 else ix l e + 1
theorem ix_at {e : Nat} : ∀ l, ix l e < l.length → rw7 l (ix l e) = e
  | [], h => absurd h (Nat.not_lt_zero _)
  | x :: l, h => by
    have u : ix (x :: l) e = if x = e then 0 else ix l e + 1 := rfl
    rw [u] at h ⊢
    by_cases c : x = e
    · rw [if_pos c]; exact c
    · rw [if_neg c] at h ⊢
      exact ix_at l (Nat.lt_of_succ_lt_succ h)
def chkS (n : Nat) : Bool := (lexL n n 0).all (fun l => (List.range n).all (fun e => Nat.blt (ix l e) n))
theorem chkS_7 : chkS 7 = true := by decide +kernel
theorem chkS_6 : ∀ n, n < 7 → chkS n = true := by decide +kernel
theorem row_PR {n : Nat} (hn : n ≤ 7) {l : List Nat} (h : l ∈ lexL n n 0) : PR n (rw7 l) (ix l) := by
  obtain ⟨h1, h2, h3⟩ := lex_mem n 0 l h
  have hc : chkS n = true := by
    rcases (show n < 7 ∨ n = 7 by omega) with c | rfl
    · exact chkS_6 n c
    · exact chkS_7
  have g : ∀ e, e < n → ix l e < n ∧ rw7 l (ix l e) = e := fun e he => by
    have q := List.all_eq_true.mp (List.all_eq_true.mp hc l h) e (List.mem_range.mpr he)
    have q' : ix l e < n := Nat.blt_eq.mp q
    exact ⟨q', ix_at l (by rw [h1]; exact q')⟩
  refine ⟨fun p hp => ?_, g⟩
  have f1 := (h2 p hp).1
  obtain ⟨q1, q2⟩ := g _ f1
  exact ⟨f1, h3 _ _ q1 hp q2⟩
theorem first_row : ∀ n, n < 8 → 1 ≤ n → 0 < (lexL n n 0).length ∧ ∀ p, p < n → rw7 ((lexL n n 0).getD 0 []) p = p := by decide +kernel
