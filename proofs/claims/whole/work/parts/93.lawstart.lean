theorem arr_known {s : State} {args : Array Value} {ty : FieldType} (h : (Jvm.Cond.arrayClass ty).before args s = true) : ∃ cA, ArrOfT s cA ty ∧ s.vm.findClass ("[" ++ ty.toString) = some cA := by
  obtain ⟨c, k, comp, h1, h2, h3⟩ := Cond.arrayClass_spec h
  exact ⟨c, fun n z => ⟨fun q hq => (by cases hq), k, h2, comp, h3⟩, h1⟩
theorem va_P.left {D : va_G} {cl : List vw_C} {a b : va_W} {H : Heap} (h : va_P D cl (a ++ b) H) : va_P D cl a H := fun k q hq => h k q (by rw [List.getElem?_append_left (List.getElem?_eq_some_iff.mp hq).1]; exact hq)
theorem va_P.right {D : va_G} {cl : List vw_C} {a b : va_W} {H : Heap} (h : va_P D cl (a ++ b) H) : va_P D cl b H := fun k q hq => h (a.length + k) q (by rw [List.getElem?_append_right (Nat.le_add_right _ _), Nat.add_sub_cancel_left]; exact hq)
theorem va_D.left {A : Nat → Prop} {a b : va_W} (h : va_D A (a ++ b)) : va_D A a := by
  have at' : ∀ {k : Nat} {q : Nat × va_E}, a[k]? = some q → (a ++ b)[k]? = some q := fun {k q} hq => by rw [List.getElem?_append_left (List.getElem?_eq_some_iff.mp hq).1]; exact hq
  exact ⟨fun i j p q hi hj e => h.1 i j p q (at' hi) (at' hj) e, fun k q hk => h.2 k q (at' hk)⟩
theorem va_D.right {A : Nat → Prop} {a b : va_W} (h : va_D A (a ++ b)) : va_D A b := by
  have at' : ∀ {k : Nat} {q : Nat × va_E}, b[k]? = some q → (a ++ b)[a.length + k]? = some q := fun {k q} hq => by rw [List.getElem?_append_right (Nat.le_add_right _ _), Nat.add_sub_cancel_left]; exact hq
  exact ⟨fun i j p q hi hj e => by have := h.1 _ _ p q (at' hi) (at' hj) e; omega, fun k q hk => h.2 _ q (at' hk)⟩
theorem va_D.disj {A : Nat → Prop} {a b : va_W} (h : va_D A (a ++ b)) {i j : Nat} {p q : Nat × va_E} (hi : a[i]? = some p) (hj : b[j]? = some q) : p.1 ≠ q.1 := fun e => by
  have hl := (List.getElem?_eq_some_iff.mp hi).1
  have := h.1 i (a.length + j) p q (by rw [List.getElem?_append_left hl]; exact hi) (by rw [List.getElem?_append_right (Nat.le_add_right _ _), Nat.add_sub_cancel_left]; exact hj) e
  omega
theorem start_ST {s : State} {b : Nat} (hts0 : ∀ w ∈ lw_tbl, w.before #[Value.ref b] s = true) (hgv : (Jvm.Cond.and given_1 narrow_1).before #[Value.ref b] s = true) : ∃ t0, ST t0 (fun q => s.heap.size ≤ q) s := by
  have hs := flat_of_before _ hgv
  obtain ⟨t0, h1, h2⟩ := va_Tof (s := s) (args := #[Value.ref b]) (tm := .static "EggOrder" "ROWS_BY_SIZE" "[I") (ty := .int) (N := 6) (f := fun j => .int (rowsBy j)) (A := fun q => s.heap.size ≤ q) (by decide) (hs _ (by decide +kernel)) (va_eqt (z := 6) (hs _ (by decide +kernel))) (fun j hj => by
    rcases (show j = 0 ∨ j = 1 ∨ j = 2 ∨ j = 3 ∨ j = 4 ∨ j = 5 by omega) with rfl | rfl | rfl | rfl | rfl | rfl
    · exact va_eqt (z := 120) (hs _ (by decide +kernel))
    · exact va_eqt (z := 24) (hs _ (by decide +kernel))
    · exact va_eqt (z := 12) (hs _ (by decide +kernel))
    · exact va_eqt (z := 12) (hs _ (by decide +kernel))
    · exact va_eqt (z := 24) (hs _ (by decide +kernel))
    · exact va_eqt (z := 120) (hs _ (by decide +kernel))) (fun a ha => Nat.not_le.mpr ha)
  exact ⟨t0, va_Zref (hts0 _ (List.mem_append_right _ (List.mem_of_getElem? (i := 615) (by decide +kernel)))) (hts0 _ (List.mem_append_right _ (List.mem_of_getElem? (i := 1) (by decide +kernel)))) h1 (fun a ha => Nat.not_le.mpr ha), h2⟩
set_option maxHeartbeats 8000000 in
set_option maxRecDepth 100000 in
theorem law_start {p : Program} {e : Env} {s : State} {m : MethodId} {below : List Frame} {meth : Method} {c : Code} (l : Launch) {b L : Nat} {xs : Nat → Int32} (N : Nat) (Rl : Hp → Hp → Prop) (hk0 : ∀ (σ τ : Hp), Rl σ τ → ∀ (p0 : Int32), ∃ r : Int32, ∃ σ1 : Hp, ∃ τ1 : Hp, t_X6_eggs N p0 σ = some (r, σ1) ∧ t_X7_eggs N p0 τ = some (r, τ1) ∧ Rl σ1 τ1) (hk1 : ∀ (σ τ : Hp), Rl σ τ → ∀ (p0 : Int32) (p1 : Int32) (p2 : Int32), ∃ r : Int32, ∃ σ1 : Hp, ∃ τ1 : Hp, t_X6_egg p0 p1 p2 σ = some (r, σ1) ∧ t_X7_egg p0 p1 p2 τ = some (r, τ1) ∧ Rl σ1 τ1) (hk2 : ∀ (σ τ : Hp), Rl σ τ → ∀ (p0 p1 : Int32), (p1 = 0 ∨ p1 = 1) → ∃ r : Int32, ∃ σ1 : Hp, ∃ τ1 : Hp, t_X6_stove p0 p1 σ = some (r, σ1) ∧ t_X7_stove p0 p1 τ = some (r, τ1) ∧ Rl σ1 τ1) (hk3 : ∀ (σ τ : Hp), Rl σ τ → ∀ (p0 : Int32), ∃ r : Int32, ∃ σ1 : Hp, ∃ τ1 : Hp, t_X6_say p0 σ = some (r, σ1) ∧ t_X7_say p0 τ = some (r, τ1) ∧ Rl σ1 τ1) (hk4 : ∀ (σ τ : Hp), Rl σ τ → ∃ r : Int32, ∃ σ1 : Hp, ∃ τ1 : Hp, t_X6_wipe σ = some (r, σ1) ∧ t_X7_wipe τ = some (r, τ1) ∧ Rl σ1 τ1) (hk5 : ∀ (σ τ : Hp), Rl σ τ → ∀ (p0 : Int32), ∃ r : Int32, ∃ τ1 : Hp, t_X6_fault N p0 σ = some r ∧ t_X7_fault N p0 τ = some (r, τ1) ∧ Rl σ τ1) (hk6 : ∀ (σ τ : Hp), Rl σ τ → ∃ r : Int32, ∃ σ1 : Hp, ∃ τ1 : Hp, t_X6_order N σ = some (r, σ1) ∧ t_X7_order N τ = some (r, τ1) ∧ Rl σ1 τ1) (hk7 : ∀ (σ τ : Hp), Rl σ τ → ∀ (p0 : Int32), ∃ r : Int32, ∃ σ1 : Hp, ∃ τ1 : Hp, t_X6_judge N p0 σ = some (r, σ1) ∧ t_X7_judge N p0 τ = some (r, τ1) ∧ Rl σ1 τ1) (hk8 : ∀ (σ τ : Hp), Rl σ τ → ∀ (p0 : Int32) (p1 : Int32), ∃ r : Int32, ∃ σ1 : Hp, ∃ τ1 : Hp, t_X6_behind N p0 p1 σ = some (r, σ1) ∧ t_X7_behind N p0 p1 τ = some (r, τ1) ∧ Rl σ1 τ1) (hk9 : ∀ (σ τ : Hp), Rl σ τ → ∀ (p0 : Int32), ∃ r : Int32, ∃ σ1 : Hp, ∃ τ1 : Hp, t_X6_hatched N p0 σ = some (r, σ1) ∧ t_X7_hatched N p0 τ = some (r, τ1) ∧ Rl σ1 τ1) (hk10 : ∀ (σ τ : Hp), Rl σ τ → ∀ (p0 : Int32), ∃ r : Int32, ∃ σ1 : Hp, ∃ τ1 : Hp, t_X6_stops N p0 σ = some (r, σ1) ∧ t_X7_stops N p0 τ = some (r, τ1) ∧ Rl σ1 τ1) (hk11 : ∀ (σ τ : Hp), Rl σ τ → ∃ r : Int32, ∃ σ1 : Hp, ∃ τ1 : Hp, t_X6_done N σ = some (r, σ1) ∧ t_X7_done N τ = some (r, τ1) ∧ Rl σ1 τ1) (hk12 : ∀ (σ τ : Hp), Rl σ τ → ∀ (p0 : Int32) (p1 : Int32), ∃ r : Int32, t_X6_state p0 p1 σ = some r ∧ t_X7_state p0 p1 τ = some r ∧ Rl σ τ) (hk13 : ∀ (σ τ : Hp), Rl σ τ → ∀ (p0 : Int32) (p1 : Int32) (p2 : Int32), ∃ r : Int32, ∃ σ1 : Hp, ∃ τ1 : Hp, t_X6_clue p0 p1 p2 σ = some (r, σ1) ∧ t_X7_clue p0 p1 p2 τ = some (r, τ1) ∧ Rl σ1 τ1) (hk14 : ∀ (σ τ : Hp), Rl σ τ → ∀ (p0 : Int32) (p1 : Int32), ∃ r : Int32, ∃ σ1 : Hp, ∃ τ1 : Hp, t_X6_seen p0 p1 σ = some (r, σ1) ∧ t_X7_seen p0 p1 τ = some (r, τ1) ∧ Rl σ1 τ1) (hk15 : ∀ (σ τ : Hp), Rl σ τ → ∀ (p0 : Int32), ∃ r : Int32, ∃ σ1 : Hp, ∃ τ1 : Hp, t_X6_forget p0 σ = some (r, σ1) ∧ t_X7_forget p0 τ = some (r, τ1) ∧ Rl σ1 τ1) (hk16 : ∀ (σ τ : Hp), Rl σ τ → ∀ (p0 : Int32), ∃ r : Int32, ∃ σ1 : Hp, ∃ τ1 : Hp, t_X6_fits N p0 σ = some (r, σ1) ∧ t_X7_fits N p0 τ = some (r, τ1) ∧ Rl σ1 τ1) (hk17 : ∀ (σ τ : Hp), Rl σ τ → ∀ (p0 : Int32), ∃ r : Int32, ∃ σ1 : Hp, ∃ τ1 : Hp, t_X6_places N p0 σ = some (r, σ1) ∧ t_X7_places N p0 τ = some (r, τ1) ∧ Rl σ1 τ1) (hk18 : ∀ (σ τ : Hp), Rl σ τ → ∃ r : Int32, ∃ σ1 : Hp, ∃ τ1 : Hp, t_X6_firsts N σ = some (r, σ1) ∧ t_X7_firsts N τ = some (r, τ1) ∧ Rl σ1 τ1) (hk19 : ∀ (σ τ : Hp), Rl σ τ → ∀ (p0 : Int32) (p1 : Int32), ∃ r : Int32, ∃ σ1 : Hp, ∃ τ1 : Hp, t_X6_certain N p0 p1 σ = some (r, σ1) ∧ t_X7_certain N p0 p1 τ = some (r, τ1) ∧ Rl σ1 τ1) (hk20 : ∀ (σ τ : Hp), Rl σ τ → ∀ (p0 : Int32), ∃ r : Int32, ∃ σ1 : Hp, ∃ τ1 : Hp, t_X6_ask N p0 σ = some (r, σ1) ∧ t_X7_ask N p0 τ = some (r, τ1) ∧ Rl σ1 τ1) (hk21 : ∀ (σ τ : Hp), Rl σ τ → ∀ (p0 : Int32), ∃ r : Int32, t_X6_mend N p0 σ = some r ∧ t_X7_mend N p0 τ = some r ∧ Rl σ τ) (hk22 : ∀ (σ τ : Hp), Rl σ τ → ∀ (p0 : Int32), ∃ r : Int32, t_X6_soonest N p0 σ = some r ∧ t_X7_soonest N p0 τ = some r ∧ Rl σ τ) (hk23 : ∀ (σ τ : Hp), Rl σ τ → ∀ (p0 : Int32) (p1 : Int32), ∃ r : Int32, ∃ τ1 : Hp, t_X6_rests N p0 p1 σ = some r ∧ t_X7_rests N p0 p1 τ = some (r, τ1) ∧ Rl σ τ1) (hk24 : ∀ (σ τ : Hp), Rl σ τ → ∀ (p0 : Int32) (p1 : Int32), ∃ r : Int64, ∃ τ1 : Hp, t_X6_shapley N p0 p1 σ = some r ∧ t_X7_shapley N p0 p1 τ = some (r, τ1) ∧ Rl σ τ1) (hk25 : ∀ (σ τ : Hp), Rl σ τ → ∀ (p0 : Int32) (p1 : Int32) (p2 : Int32), ∃ r : Int64, t_X6_hope N p0 p1 p2 σ = some r ∧ t_X7_hope N p0 p1 p2 τ = some r ∧ Rl σ τ) (hk26 : ∀ (σ τ : Hp), Rl σ τ → ∀ (p0 : Int32) (p1 : Int32) (p2 : Int32), ∃ r : Int32, ∃ σ1 : Hp, ∃ τ1 : Hp, t_X6_year N p0 p1 p2 σ = some (r, σ1) ∧ t_X7_year N p0 p1 p2 τ = some (r, τ1) ∧ Rl σ1 τ1) (hk27 : ∀ (σ τ : Hp), Rl σ τ → ∀ (p0 : Int32), ∃ r : Int32, ∃ σ1 : Hp, ∃ τ1 : Hp, t_X6_image N p0 σ = some (r, σ1) ∧ t_X7_image N p0 τ = some (r, τ1) ∧ Rl σ1 τ1) (hk28 : ∀ (σ τ : Hp), Rl σ τ → ∀ (p0 : Int32), ∃ r : Int32, ∃ σ1 : Hp, ∃ τ1 : Hp, t_X6_restore N p0 σ = some (r, σ1) ∧ t_X7_restore N p0 τ = some (r, τ1) ∧ Rl σ1 τ1) (hk29 : ∀ (σ τ : Hp), Rl σ τ → ∀ (p0 : Int32), ∃ r : Int32, t_X6_told p0 σ = some r ∧ t_X7_told p0 τ = some r ∧ Rl σ τ) (σ0 τ0 : Hp) (hσ0 : t_X0_startWith N 2 4 (fun _ _ => 0) = some σ0) (hτ0 : t_X7_begin N 4 (fun _ _ => 0) = some τ0) (hR0 : Rl σ0 τ0) (hL : L ≤ 2048) (C0 : lw_At p s m meth c b L xs) : W p l e room_1 s m #[Value.ref b] below meth c s.heap [] 0 0 (lw_Z below #[Value.ref b] s) (entryFrame m ([Value.ref b] : List Value).toArray 4) := by
  obtain ⟨hx, hb, hr, hml, hown, hts0, hX, hbl, hlocks, hgv⟩ := id C0
  have hts : ∀ w ∈ wsU, w.before #[Value.ref b] s = true := fun w h => hts0 w (List.mem_filter.mp h).1
  have hN : NL s := fun w hw hn => va_Nw.of (nst_tab hn) (hts0 w (List.mem_append_right _ hw))
  obtain ⟨t0, hST⟩ := start_ST hts0 hgv
  have hA : ∀ q : Nat, s.heap.size ≤ q → (fun q : Nat => s.heap.size ≤ q) q := fun _ h => h
  have hbA : ¬ (fun q : Nat => s.heap.size ≤ q) b := Nat.not_le.mpr hbl
  obtain ⟨c0, iS0, hKn0⟩ := u_known (C := RX0) (T := TX0) (N := 4) (n := 4) hts inUX0 (hts _ wd_580)
  obtain ⟨c1, iS1, hKn1⟩ := u_known (C := RX1) (T := TX1) (N := 13) (n := 13) hts inUX1 (hts _ wd_584)
  obtain ⟨c2, iS2, hKn2⟩ := u_known (C := RX2) (T := TX2) (N := 7) (n := 7) hts inUX2 (hts _ wd_589)
  obtain ⟨c3, iS3, hKn3⟩ := u_known (C := RX3) (T := TX3) (N := 2) (n := 2) hts inUX3 (hts _ wd_593)
  obtain ⟨c4, iS4, hKn4⟩ := u_known (C := RX4) (T := TX4) (N := 3) (n := 3) hts inUX4 (hts _ wd_597)
  obtain ⟨c5, iS5, hKn5⟩ := u_known (C := RX5) (T := TX5) (N := 6) (n := 6) hts inUX5 (hts _ wd_603)
  obtain ⟨c6, iS6, hKn6⟩ := u_known (C := RX6) (T := TX6) (N := 7) (n := 7) hts inUX6 (hts _ wd_608)
  obtain ⟨c7, iS7, hKn7⟩ := u_known (C := RX7) (T := TX7) (N := 42) (n := 42) hts inUX7 (hts _ wd_617)
  obtain ⟨cI, hI1, hI2⟩ := arr_known (hts _ wd_621)
  obtain ⟨cZ, hZ1, hZ2⟩ := arr_known (hts _ wd_622)
  obtain ⟨D, hKc⟩ : ∃ D : va_G, ∀ (k : Nat) (q : vw_C), vwCl[k]? = some q → u_Kn s q.1 q.2.1 q.2.2 (D.1 k) (D.2 k) := by
    refine ⟨(fun k => match k with | 0 => c0 | 1 => c1 | 2 => c2 | 3 => c3 | 4 => c4 | 5 => c5 | 6 => c6 | _ => c7, fun k => match k with | 0 => iS0 | 1 => iS1 | 2 => iS2 | 3 => iS3 | 4 => iS4 | 5 => iS5 | 6 => iS6 | _ => iS7), ?_⟩
    intro k q hq
    match k, hq with
    | 0, hq => cases hq; exact hKn0
    | 1, hq => cases hq; exact hKn1
    | 2, hq => cases hq; exact hKn2
    | 3, hq => cases hq; exact hKn3
    | 4, hq => cases hq; exact hKn4
    | 5, hq => cases hq; exact hKn5
    | 6, hq => cases hq; exact hKn6
    | 7, hq => cases hq; exact hKn7
    | k + 8, hq => simp [vwCl] at hq
  obtain ⟨cy, ecy⟩ : ∃ cy : ClassId × ClassId, cy = (cI, cZ) := ⟨_, rfl⟩
  have hK : va_K D vwCl [(cy.1, .int), (cy.2, .boolean)] s := by
    subst ecy
    refine ⟨hKc, fun k q h => ?_⟩
    match k, h with
    | 0, h => cases h; exact ⟨hI1, hI2⟩
    | 1, h => cases h; exact ⟨hZ1, hZ2⟩
    | k + 2, h => simp at h
  have hC : Cx p m c cL_law 4 s #[Value.ref b] wsU RL D cy := ⟨⟨hx, hb, hml, hown, hts⟩, hK, hN⟩
  have hS : va_S (fun q : Nat => s.heap.size ≤ q) s.heap s.heap [] := va_S.rf
  have hP : va_P D vwCl [] s.heap := fun k q h => by simp at h
  have hD : va_D (fun q : Nat => s.heap.size ≤ q) [] := ⟨fun i j p q h => by simp at h, fun k q h => by simp at h⟩
  have hl := lv_entry ([.ref b]) (n := 4) (Nat.le_of_ble_eq_true rfl)
  rw [lg_entry_eq]
  generalize (lg_sl ([.ref b]) ++ List.replicate (4 - (lg_sl ([.ref b])).length) Slot.unset).toArray = ls at hl ⊢
  have hl : lv_has ls 4 [(0, .ref b)] := hl
  refine va_new (ci := 6) (fs := [.null, .null, .null, .null, .null, .null, .null]) (C := RX6) (T := TX6) (N := 7) hx hb hts inUX6 tyX6 tyX6_ok hown (hts _ wd_805) (hts _ wd_608) (hts _ wd_5) hK hP hD hS hA rfl (fun j hj => by revert j; decide +kernel) (Nat.le_of_ble_eq_true rfl) (Nat.le_of_ble_eq_true rfl) dL_law_0 (fun q0 H hP1 hD1 hS1 => ?_)
  replace hP := hP1
  replace hD := hD1
  replace hS := hS1
  clear hP1 hD1 hS1
  refine W.widen (k := 1) (n := 7) (Nat.le_of_ble_eq_true rfl) (Nat.le_of_ble_eq_true rfl) ?_
  refine lv_dup hx hb dL_law_3 rfl ?_
  have hPc := last_P (wr := []) (x := (q0, .inr (6, [.null, .null, .null, .null, .null, .null, .null]))) hP
  have hDc := last_D (wr := []) (x := (q0, .inr (6, [.null, .null, .null, .null, .null, .null, .null]))) hD
  have hFc := last_F (wr := []) (x := (q0, .inr (6, [.null, .null, .null, .null, .null, .null, .null]))) hD hS hA
  refine va_callv (va_runI (As := []) (rest := [.ref q0]) hC.1 (c_X6_init l D cy (va_A [(q0, .inr (6, [.null, .null, .null, .null, .null, .null, .null]))] H.size) N q0 σ0 hσ0) (cwI 0 hts (gdN wd_606) rfl rfl rfl (hts _ wd_5) (hts _ wd_806) (hts _ wd_607) rfl (by decide +kernel) ⟨Nat.le_of_ble_eq_true rfl, Nat.le_of_ble_eq_true rfl⟩) ⟨fun a U g mk q => by obtain ⟨q0, qP, qK, qD, qA, qN⟩ := q; exact ⟨q0, qP, va_K.moved (u := U) (U := U.calling g mk a) (Vm.Alike.refl U.vm) qK, qD, qA, NL.same (u := U) (U := U.calling g mk a) rfl qN⟩, fun U hU hV => ⟨rfl, by rw [hU]; exact hPc, va_K.moved hV.alike hK, hDc.self, fun q hq => Or.inr (by rw [hU] at hq; exact hq), hN.warm hV⟩⟩ rfl rfl hl.1 rfl (lv_room (Nat.le_of_ble_eq_true rfl)) dL_law_4 ⟨Nat.le_of_ble_eq_true rfl, Nat.le_of_ble_eq_true rfl⟩) hS (fun q _ h => hFc q h) hFc (fun adX t H1 locs ht hvm hw hB hz1 hk1 hS1 => ?_)
  have hJ := join_last (wr := []) (w1 := wl 55 shX adX cy σ0) (x := (q0, .inr (6, [.null, .null, .null, .null, .null, .null, .null]))) hP hD hk1 hFc (by rw [← ht]; exact hB.1) hB.2
  subst hw
  clear hP hD hPc hDc hFc hk1 hB
  generalize H1 = H at hJ hS1 ⊢
  have hP := hJ.1
  have hD := hJ.2
  replace hS := hS1
  clear hS1 hJ
  refine W.widen (k := 55) (n := 663) (Nat.le_of_ble_eq_true rfl) (Nat.le_of_ble_eq_true rfl) ?_
  replace hP : va_P D vwCl (wl 55 shX adX cy σ0) H := hP
  replace hD : va_D (fun q : Nat => s.heap.size ≤ q) (wl 55 shX adX cy σ0) := hD
  refine lv_astore_n (lv' := [(1, .ref (adX 0)), (0, .ref b)]) hx hb dL_law_7 rfl hl (by decide) rfl (fun ls hl => ?_)
  refine va_new (ci := 7) (fs := [.int 0, .null, .null, .null, .null, .null, .null, .int 0, .null, .null, .null, .int 0, .null, .null, .int 0, .null, .int 0, .null, .null, .null, .int 0, .int 0, .null, .int 0, .int 0, .null, .int 0, .int 0, .null, .null, .int 0, .int 0, .null, .int 0, .null, .null, .null, .null, .null, .null, .int 0, .int 0]) (C := RX7) (T := TX7) (N := 42) hx hb hts inUX7 tyX7 tyX7_ok hown (hts _ wd_807) (hts _ wd_617) (hts _ wd_300) hK hP hD hS hA rfl (fun j hj => by revert j; decide +kernel) (Nat.le_of_ble_eq_true rfl) (Nat.le_of_ble_eq_true rfl) dL_law_8 (fun q1 H hP1 hD1 hS1 => ?_)
  replace hP := hP1
  replace hD := hD1
  replace hS := hS1
  clear hP1 hD1 hS1
  refine W.widen (k := 56) (n := 705) (Nat.le_of_ble_eq_true rfl) (Nat.le_of_ble_eq_true rfl) ?_
  refine lv_dup hx hb dL_law_11 rfl ?_
  have hPc := last_P (wr := wl 55 shX adX cy σ0) (x := (q1, .inr (7, [.int 0, .null, .null, .null, .null, .null, .null, .int 0, .null, .null, .null, .int 0, .null, .null, .int 0, .null, .int 0, .null, .null, .null, .int 0, .int 0, .null, .int 0, .int 0, .null, .int 0, .int 0, .null, .null, .int 0, .int 0, .null, .int 0, .null, .null, .null, .null, .null, .null, .int 0, .int 0]))) hP
  have hDc := last_D (wr := wl 55 shX adX cy σ0) (x := (q1, .inr (7, [.int 0, .null, .null, .null, .null, .null, .null, .int 0, .null, .null, .null, .int 0, .null, .null, .int 0, .null, .int 0, .null, .null, .null, .int 0, .int 0, .null, .int 0, .int 0, .null, .int 0, .int 0, .null, .null, .int 0, .int 0, .null, .int 0, .null, .null, .null, .null, .null, .null, .int 0, .int 0]))) hD
  have hFc := last_F (wr := wl 55 shX adX cy σ0) (x := (q1, .inr (7, [.int 0, .null, .null, .null, .null, .null, .null, .int 0, .null, .null, .null, .int 0, .null, .null, .int 0, .null, .int 0, .null, .null, .null, .int 0, .int 0, .null, .int 0, .int 0, .null, .int 0, .int 0, .null, .null, .int 0, .int 0, .null, .int 0, .null, .null, .null, .null, .null, .null, .int 0, .int 0]))) hD hS hA
  refine va_callv (va_runI (As := []) (rest := [.ref q1]) hC.1 (c_X7_init l D cy (va_A [(q1, .inr (7, [.int 0, .null, .null, .null, .null, .null, .null, .int 0, .null, .null, .null, .int 0, .null, .null, .int 0, .null, .int 0, .null, .null, .null, .int 0, .int 0, .null, .int 0, .int 0, .null, .int 0, .int 0, .null, .null, .int 0, .int 0, .null, .int 0, .null, .null, .null, .null, .null, .null, .int 0, .int 0]))] H.size) N q1 τ0 hτ0) (cwI 0 hts (gdN wd_615) rfl rfl rfl (hts _ wd_300) (hts _ wd_808) (hts _ wd_616) rfl (by decide +kernel) ⟨Nat.le_of_ble_eq_true rfl, Nat.le_of_ble_eq_true rfl⟩) ⟨fun a U g mk q => by obtain ⟨q0, qP, qK, qD, qA, qN⟩ := q; exact ⟨q0, qP, va_K.moved (u := U) (U := U.calling g mk a) (Vm.Alike.refl U.vm) qK, qD, qA, NL.same (u := U) (U := U.calling g mk a) rfl qN⟩, fun U hU hV => ⟨rfl, by rw [hU]; exact hPc, va_K.moved hV.alike hK, hDc.self, fun q hq => Or.inr (by rw [hU] at hq; exact hq), hN.warm hV⟩⟩ rfl rfl hl.1 rfl (lv_room (Nat.le_of_ble_eq_true rfl)) dL_law_12 ⟨Nat.le_of_ble_eq_true rfl, Nat.le_of_ble_eq_true rfl⟩) hS (fun q _ h => hFc q h) hFc (fun adM t H1 locs ht hvm hw hB hz1 hk1 hS1 => ?_)
  have hJ := join_last (wr := wl 55 shX adX cy σ0) (w1 := wl 27 shM adM cy τ0) (x := (q1, .inr (7, [.int 0, .null, .null, .null, .null, .null, .null, .int 0, .null, .null, .null, .int 0, .null, .null, .int 0, .null, .int 0, .null, .null, .null, .int 0, .int 0, .null, .int 0, .int 0, .null, .int 0, .int 0, .null, .null, .int 0, .int 0, .null, .int 0, .null, .null, .null, .null, .null, .null, .int 0, .int 0]))) hP hD hk1 hFc (by rw [← ht]; exact hB.1) hB.2
  subst hw
  clear hP hD hPc hDc hFc hk1 hB
  generalize H1 = H at hJ hS1 ⊢
  have hP := hJ.1
  have hD := hJ.2
  replace hS := hS1
  clear hS1 hJ
  refine W.widen (k := 82) (n := 1454) (Nat.le_of_ble_eq_true rfl) (Nat.le_of_ble_eq_true rfl) ?_
  refine lv_astore_n (lv' := [(2, .ref (adM 0)), (1, .ref (adX 0)), (0, .ref b)]) hx hb dL_law_15 rfl hl (by decide) rfl (fun ls hl => ?_)
  refine lv_iconst (v := 0) hx hb dL_law_16 (by decide) ?_
  refine lv_istore_n (lv' := [(3, .int 0), (2, .ref (adM 0)), (1, .ref (adX 0)), (0, .ref b)]) hx hb dL_law_17 rfl hl (by decide) rfl (fun ls hl => ?_)
  refine W.widen (k := 600000) (n := 7302250) (Nat.le_of_ble_eq_true rfl) (Nat.le_of_ble_eq_true rfl) ?_
  exact law_loop N Rl hk0 hk1 hk2 hk3 hk4 hk5 hk6 hk7 hk8 hk9 hk10 hk11 hk12 hk13 hk14 hk15 hk16 hk17 hk18 hk19 hk20 hk21 hk22 hk23 hk24 hk25 hk26 hk27 hk28 hk29 hL hr hlocks hC hX hbl hST (L + 4) 0 (by omega) (by omega) 0 rfl σ0 τ0 hR0 H _ ⟨hP.left, hP.right, hD.left, hD.right, fun i j hi hj => hD.disj (wl_at hi) (wl_at hj), hS, fun _ h => h⟩ ls (lv_sub hl [3, 2, 1, 0] rfl)
