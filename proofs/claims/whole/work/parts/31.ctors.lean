set_option maxHeartbeats 8000000 in
set_option maxRecDepth 100000 in
theorem c_X0_init (l : Launch) (D : va_G) (cy : ClassId × ClassId) (A : Nat → Prop) (h0 : Nat) : Met l yX0_init us_X0_init ({ frames := 1, cells := 2, slots := 42, locals := 12 } : Room) (va_Pc [.ref h0] (fun U => va_P D vwCl [(h0, .inr (0, [.int 0, .int 0, .null, .null]))] U.heap ∧ va_K D vwCl [(cy.1, .int), (cy.2, .boolean)] U ∧ va_D A [(h0, .inr (0, [.int 0, .int 0, .null, .null]))] ∧ (∀ q, U.heap.size ≤ q → A q) ∧ NL U)) (va_Qv (fun _ : Unit => True) (fun _ t => ∃ (u1 u2 : Nat), va_P D vwCl [(h0, .inr (0, [.int 0, .int 0, .ref u1, .ref u2])), (u1, .inl (cy.1, 7, .inl (fun _ => 0))), (u2, .inl (cy.1, 35, .inl (fun _ => 0)))] t.heap ∧ va_D A [(h0, .inr (0, [.int 0, .int 0, .ref u1, .ref u2])), (u1, .inl (cy.1, 7, .inl (fun _ => 0))), (u2, .inl (cy.1, 35, .inl (fun _ => 0)))]) A) 2 42 A := by
  refine Met.ofW (cc := cX0_init) (maxL := 1) (ret := none) (by decide) rfl ?_
  intro p e s m args below meth c s₁ B hml hv
  obtain ⟨rfl, hP, hK, hD, hA, hN⟩ := hv
  have hx := B.exec
  have hb := B.bytes
  have hr := B.returns
  have hlocks := B.notSynchronized
  have hin : meth.name = "<init>" := (name_of_methodNamed B.named B.method).1
  have hts : ∀ w ∈ wsU, w.before _ s = true := fun w h => atoms_spec (ws := us_X0_init) B.pre w (List.mem_cons_of_mem _ h)
  have hown : s.vm.findClass RX0 = some m.cls := findClass_of_methodNamed B.named
  have hC : Cx p m c cX0_init 1 s _ wsU RX0 D cy := ⟨⟨hx, hb, hml, hown, hts⟩, hK, hN⟩
  have hS : va_S A s.heap s.heap [] := va_S.rf
  have hl := lv_entry ([.ref h0]) (n := 1) (Nat.le_of_ble_eq_true rfl)
  rw [lg_entry_eq]
  generalize (lg_sl ([.ref h0]) ++ List.replicate (1 - (lg_sl ([.ref h0])).length) Slot.unset).toArray = ls at hl ⊢
  have hl : lv_has ls 1 [(0, .ref h0)] := hl
  refine lv_aload_n hx hb dX0_init_0 rfl (lv_at hl 0 rfl) ?_
  refine W.objInit hx hb hown (hts _ wd_581) (hts _ wd_619) (hts _ wd_620) rfl (by rw [hml]; exact hl.1) rfl dX0_init_1 (Nat.le_of_ble_eq_true rfl) (Nat.le_of_ble_eq_true rfl) ?_
  refine W.eq (g2 := F0 m 4 ls []) rfl ?_
  refine lv_aload_n hx hb dX0_init_4 rfl (lv_at hl 0 rfl) ?_
  refine lv_bipush (v := 7) hx hb dX0_init_5 (by decide) ?_
  refine r_newi (N' := 7) hC hP hD hS hA (hts _ wd_621) (by decide) (by decide) (Nat.le_of_ble_eq_true rfl) (Nat.le_of_ble_eq_true rfl) (Nat.le_of_ble_eq_true rfl) dX0_init_7 (fun g7 H hP1 hD1 hS1 => ?_)
  replace hS := hS1
  clear hS1
  replace hP : va_P D vwCl [(h0, .inr (0, [.int 0, .int 0, .null, .null])), (g7, .inl (cy.1, 7, .inl (fun _ => 0)))] H := hP1
  replace hD : va_D A [(h0, .inr (0, [.int 0, .int 0, .null, .null])), (g7, .inl (cy.1, 7, .inl (fun _ => 0)))] := hD1
  clear hP1 hD1
  refine W.widen (k := 1) (n := 7) (by omega) (by omega) ?_
  refine va_putF (D := D) (ci := 0) (v := .ref g7) (ty := .array .int) (C := RX0) (T := TX0) (N := 4) hx hb hts inUX0 tyX0 tyX0_ok nmX0 hown hK hP hD hS 0 rfl rfl 2 (by decide) (hts _ wd_22) (fun _ h9 => h9) rfl hin rfl (by decide +kernel) rfl rfl (Nat.le_of_ble_eq_true rfl) dX0_init_9 (fun H locs hP1 hD1 hS1 => ?_)
  replace hS := hS1
  clear hS1
  replace hP : va_P D vwCl [(h0, .inr (0, [.int 0, .int 0, .ref g7, .null])), (g7, .inl (cy.1, 7, .inl (fun _ => 0)))] H := hP1
  replace hD : va_D A [(h0, .inr (0, [.int 0, .int 0, .ref g7, .null])), (g7, .inl (cy.1, 7, .inl (fun _ => 0)))] := hD1
  clear hP1 hD1
  refine lv_aload_n hx hb dX0_init_12 rfl (lv_at hl 0 rfl) ?_
  refine lv_bipush (v := 35) hx hb dX0_init_13 (by decide) ?_
  refine r_newi (N' := 35) hC hP hD hS hA (hts _ wd_621) (by decide) (by decide) (Nat.le_of_ble_eq_true rfl) (Nat.le_of_ble_eq_true rfl) (Nat.le_of_ble_eq_true rfl) dX0_init_15 (fun g15 H hP1 hD1 hS1 => ?_)
  replace hS := hS1
  clear hS1
  replace hP : va_P D vwCl [(h0, .inr (0, [.int 0, .int 0, .ref g7, .null])), (g7, .inl (cy.1, 7, .inl (fun _ => 0))), (g15, .inl (cy.1, 35, .inl (fun _ => 0)))] H := hP1
  replace hD : va_D A [(h0, .inr (0, [.int 0, .int 0, .ref g7, .null])), (g7, .inl (cy.1, 7, .inl (fun _ => 0))), (g15, .inl (cy.1, 35, .inl (fun _ => 0)))] := hD1
  clear hP1 hD1
  refine W.widen (k := 2) (n := 42) (by omega) (by omega) ?_
  refine va_putF (D := D) (ci := 0) (v := .ref g15) (ty := .array .int) (C := RX0) (T := TX0) (N := 4) hx hb hts inUX0 tyX0 tyX0_ok nmX0 hown hK hP hD hS 0 rfl rfl 3 (by decide) (hts _ wd_3) (fun _ h9 => h9) rfl hin rfl (by decide +kernel) rfl rfl (Nat.le_of_ble_eq_true rfl) dX0_init_17 (fun H locs hP1 hD1 hS1 => ?_)
  replace hS := hS1
  clear hS1
  replace hP : va_P D vwCl [(h0, .inr (0, [.int 0, .int 0, .ref g7, .ref g15])), (g7, .inl (cy.1, 7, .inl (fun _ => 0))), (g15, .inl (cy.1, 35, .inl (fun _ => 0)))] H := hP1
  replace hD : va_D A [(h0, .inr (0, [.int 0, .int 0, .ref g7, .ref g15])), (g7, .inl (cy.1, 7, .inl (fun _ => 0))), (g15, .inl (cy.1, 35, .inl (fun _ => 0)))] := hD1
  clear hP1 hD1
  exact W.vret hx hb hr (fun t ht hV => ⟨⟨(), rfl, trivial, g7, g15, by rw [ht]; exact hP, hD⟩, hS.F ht⟩) hS.2.2 dX0_init_20 hlocks
set_option maxHeartbeats 8000000 in
set_option maxRecDepth 100000 in
theorem c_X2_init (l : Launch) (D : va_G) (cy : ClassId × ClassId) (A : Nat → Prop) (h0 : Nat) : Met l yX2_init us_X2_init ({ frames := 1, cells := 5, slots := 50, locals := 12 } : Room) (va_Pc [.ref h0] (fun U => va_P D vwCl [(h0, .inr (2, [.int 0, .int 0, .null, .null, .null, .null, .null]))] U.heap ∧ va_K D vwCl [(cy.1, .int), (cy.2, .boolean)] U ∧ va_D A [(h0, .inr (2, [.int 0, .int 0, .null, .null, .null, .null, .null]))] ∧ (∀ q, U.heap.size ≤ q → A q) ∧ NL U)) (va_Qv (fun _ : Unit => True) (fun _ t => ∃ (u1 u2 u3 u4 u5 : Nat), va_P D vwCl [(h0, .inr (2, [.int 0, .int 0, .ref u1, .ref u2, .ref u3, .ref u4, .ref u5])), (u1, .inl (cy.1, 12, .inl (fun _ => 0))), (u2, .inl (cy.1, 12, .inl (fun _ => 0))), (u3, .inl (cy.1, 12, .inl (fun _ => 0))), (u4, .inl (cy.1, 7, .inl (fun _ => 0))), (u5, .inl (cy.1, 7, .inl (fun _ => 0)))] t.heap ∧ va_D A [(h0, .inr (2, [.int 0, .int 0, .ref u1, .ref u2, .ref u3, .ref u4, .ref u5])), (u1, .inl (cy.1, 12, .inl (fun _ => 0))), (u2, .inl (cy.1, 12, .inl (fun _ => 0))), (u3, .inl (cy.1, 12, .inl (fun _ => 0))), (u4, .inl (cy.1, 7, .inl (fun _ => 0))), (u5, .inl (cy.1, 7, .inl (fun _ => 0)))]) A) 5 50 A := by
  refine Met.ofW (cc := cX2_init) (maxL := 1) (ret := none) (by decide) rfl ?_
  intro p e s m args below meth c s₁ B hml hv
  obtain ⟨rfl, hP, hK, hD, hA, hN⟩ := hv
  have hx := B.exec
  have hb := B.bytes
  have hr := B.returns
  have hlocks := B.notSynchronized
  have hin : meth.name = "<init>" := (name_of_methodNamed B.named B.method).1
  have hts : ∀ w ∈ wsU, w.before _ s = true := fun w h => atoms_spec (ws := us_X2_init) B.pre w (List.mem_cons_of_mem _ h)
  have hown : s.vm.findClass RX2 = some m.cls := findClass_of_methodNamed B.named
  have hC : Cx p m c cX2_init 1 s _ wsU RX2 D cy := ⟨⟨hx, hb, hml, hown, hts⟩, hK, hN⟩
  have hS : va_S A s.heap s.heap [] := va_S.rf
  have hl := lv_entry ([.ref h0]) (n := 1) (Nat.le_of_ble_eq_true rfl)
  rw [lg_entry_eq]
  generalize (lg_sl ([.ref h0]) ++ List.replicate (1 - (lg_sl ([.ref h0])).length) Slot.unset).toArray = ls at hl ⊢
  have hl : lv_has ls 1 [(0, .ref h0)] := hl
  refine lv_aload_n hx hb dX2_init_0 rfl (lv_at hl 0 rfl) ?_
  refine W.objInit hx hb hown (hts _ wd_590) (hts _ wd_619) (hts _ wd_620) rfl (by rw [hml]; exact hl.1) rfl dX2_init_1 (Nat.le_of_ble_eq_true rfl) (Nat.le_of_ble_eq_true rfl) ?_
  refine W.eq (g2 := F0 m 4 ls []) rfl ?_
  refine lv_aload_n hx hb dX2_init_4 rfl (lv_at hl 0 rfl) ?_
  refine lv_bipush (v := 12) hx hb dX2_init_5 (by decide) ?_
  refine r_newi (N' := 12) hC hP hD hS hA (hts _ wd_621) (by decide) (by decide) (Nat.le_of_ble_eq_true rfl) (Nat.le_of_ble_eq_true rfl) (Nat.le_of_ble_eq_true rfl) dX2_init_7 (fun g7 H hP1 hD1 hS1 => ?_)
  replace hS := hS1
  clear hS1
  replace hP : va_P D vwCl [(h0, .inr (2, [.int 0, .int 0, .null, .null, .null, .null, .null])), (g7, .inl (cy.1, 12, .inl (fun _ => 0)))] H := hP1
  replace hD : va_D A [(h0, .inr (2, [.int 0, .int 0, .null, .null, .null, .null, .null])), (g7, .inl (cy.1, 12, .inl (fun _ => 0)))] := hD1
  clear hP1 hD1
  refine W.widen (k := 1) (n := 12) (by omega) (by omega) ?_
  refine va_putF (D := D) (ci := 2) (v := .ref g7) (ty := .array .int) (C := RX2) (T := TX2) (N := 7) hx hb hts inUX2 tyX2 tyX2_ok nmX2 hown hK hP hD hS 0 rfl rfl 2 (by decide) (hts _ wd_120) (fun _ h9 => h9) rfl hin rfl (by decide +kernel) rfl rfl (Nat.le_of_ble_eq_true rfl) dX2_init_9 (fun H locs hP1 hD1 hS1 => ?_)
  replace hS := hS1
  clear hS1
  replace hP : va_P D vwCl [(h0, .inr (2, [.int 0, .int 0, .ref g7, .null, .null, .null, .null])), (g7, .inl (cy.1, 12, .inl (fun _ => 0)))] H := hP1
  replace hD : va_D A [(h0, .inr (2, [.int 0, .int 0, .ref g7, .null, .null, .null, .null])), (g7, .inl (cy.1, 12, .inl (fun _ => 0)))] := hD1
  clear hP1 hD1
  refine lv_aload_n hx hb dX2_init_12 rfl (lv_at hl 0 rfl) ?_
  refine lv_bipush (v := 12) hx hb dX2_init_13 (by decide) ?_
  refine r_newi (N' := 12) hC hP hD hS hA (hts _ wd_621) (by decide) (by decide) (Nat.le_of_ble_eq_true rfl) (Nat.le_of_ble_eq_true rfl) (Nat.le_of_ble_eq_true rfl) dX2_init_15 (fun g15 H hP1 hD1 hS1 => ?_)
  replace hS := hS1
  clear hS1
  replace hP : va_P D vwCl [(h0, .inr (2, [.int 0, .int 0, .ref g7, .null, .null, .null, .null])), (g7, .inl (cy.1, 12, .inl (fun _ => 0))), (g15, .inl (cy.1, 12, .inl (fun _ => 0)))] H := hP1
  replace hD : va_D A [(h0, .inr (2, [.int 0, .int 0, .ref g7, .null, .null, .null, .null])), (g7, .inl (cy.1, 12, .inl (fun _ => 0))), (g15, .inl (cy.1, 12, .inl (fun _ => 0)))] := hD1
  clear hP1 hD1
  refine W.widen (k := 2) (n := 24) (by omega) (by omega) ?_
  refine va_putF (D := D) (ci := 2) (v := .ref g15) (ty := .array .int) (C := RX2) (T := TX2) (N := 7) hx hb hts inUX2 tyX2 tyX2_ok nmX2 hown hK hP hD hS 0 rfl rfl 3 (by decide) (hts _ wd_121) (fun _ h9 => h9) rfl hin rfl (by decide +kernel) rfl rfl (Nat.le_of_ble_eq_true rfl) dX2_init_17 (fun H locs hP1 hD1 hS1 => ?_)
  replace hS := hS1
  clear hS1
  replace hP : va_P D vwCl [(h0, .inr (2, [.int 0, .int 0, .ref g7, .ref g15, .null, .null, .null])), (g7, .inl (cy.1, 12, .inl (fun _ => 0))), (g15, .inl (cy.1, 12, .inl (fun _ => 0)))] H := hP1
  replace hD : va_D A [(h0, .inr (2, [.int 0, .int 0, .ref g7, .ref g15, .null, .null, .null])), (g7, .inl (cy.1, 12, .inl (fun _ => 0))), (g15, .inl (cy.1, 12, .inl (fun _ => 0)))] := hD1
  clear hP1 hD1
  refine lv_aload_n hx hb dX2_init_20 rfl (lv_at hl 0 rfl) ?_
  refine lv_bipush (v := 12) hx hb dX2_init_21 (by decide) ?_
  refine r_newi (N' := 12) hC hP hD hS hA (hts _ wd_621) (by decide) (by decide) (Nat.le_of_ble_eq_true rfl) (Nat.le_of_ble_eq_true rfl) (Nat.le_of_ble_eq_true rfl) dX2_init_23 (fun g23 H hP1 hD1 hS1 => ?_)
  replace hS := hS1
  clear hS1
  replace hP : va_P D vwCl [(h0, .inr (2, [.int 0, .int 0, .ref g7, .ref g15, .null, .null, .null])), (g7, .inl (cy.1, 12, .inl (fun _ => 0))), (g15, .inl (cy.1, 12, .inl (fun _ => 0))), (g23, .inl (cy.1, 12, .inl (fun _ => 0)))] H := hP1
  replace hD : va_D A [(h0, .inr (2, [.int 0, .int 0, .ref g7, .ref g15, .null, .null, .null])), (g7, .inl (cy.1, 12, .inl (fun _ => 0))), (g15, .inl (cy.1, 12, .inl (fun _ => 0))), (g23, .inl (cy.1, 12, .inl (fun _ => 0)))] := hD1
  clear hP1 hD1
  refine W.widen (k := 3) (n := 36) (by omega) (by omega) ?_
  refine va_putF (D := D) (ci := 2) (v := .ref g23) (ty := .array .int) (C := RX2) (T := TX2) (N := 7) hx hb hts inUX2 tyX2 tyX2_ok nmX2 hown hK hP hD hS 0 rfl rfl 4 (by decide) (hts _ wd_122) (fun _ h9 => h9) rfl hin rfl (by decide +kernel) rfl rfl (Nat.le_of_ble_eq_true rfl) dX2_init_25 (fun H locs hP1 hD1 hS1 => ?_)
  replace hS := hS1
  clear hS1
  replace hP : va_P D vwCl [(h0, .inr (2, [.int 0, .int 0, .ref g7, .ref g15, .ref g23, .null, .null])), (g7, .inl (cy.1, 12, .inl (fun _ => 0))), (g15, .inl (cy.1, 12, .inl (fun _ => 0))), (g23, .inl (cy.1, 12, .inl (fun _ => 0)))] H := hP1
  replace hD : va_D A [(h0, .inr (2, [.int 0, .int 0, .ref g7, .ref g15, .ref g23, .null, .null])), (g7, .inl (cy.1, 12, .inl (fun _ => 0))), (g15, .inl (cy.1, 12, .inl (fun _ => 0))), (g23, .inl (cy.1, 12, .inl (fun _ => 0)))] := hD1
  clear hP1 hD1
  refine lv_aload_n hx hb dX2_init_28 rfl (lv_at hl 0 rfl) ?_
  refine lv_bipush (v := 7) hx hb dX2_init_29 (by decide) ?_
  refine r_newi (N' := 7) hC hP hD hS hA (hts _ wd_621) (by decide) (by decide) (Nat.le_of_ble_eq_true rfl) (Nat.le_of_ble_eq_true rfl) (Nat.le_of_ble_eq_true rfl) dX2_init_31 (fun g31 H hP1 hD1 hS1 => ?_)
  replace hS := hS1
  clear hS1
  replace hP : va_P D vwCl [(h0, .inr (2, [.int 0, .int 0, .ref g7, .ref g15, .ref g23, .null, .null])), (g7, .inl (cy.1, 12, .inl (fun _ => 0))), (g15, .inl (cy.1, 12, .inl (fun _ => 0))), (g23, .inl (cy.1, 12, .inl (fun _ => 0))), (g31, .inl (cy.1, 7, .inl (fun _ => 0)))] H := hP1
  replace hD : va_D A [(h0, .inr (2, [.int 0, .int 0, .ref g7, .ref g15, .ref g23, .null, .null])), (g7, .inl (cy.1, 12, .inl (fun _ => 0))), (g15, .inl (cy.1, 12, .inl (fun _ => 0))), (g23, .inl (cy.1, 12, .inl (fun _ => 0))), (g31, .inl (cy.1, 7, .inl (fun _ => 0)))] := hD1
  clear hP1 hD1
  refine W.widen (k := 4) (n := 43) (by omega) (by omega) ?_
  refine va_putF (D := D) (ci := 2) (v := .ref g31) (ty := .array .int) (C := RX2) (T := TX2) (N := 7) hx hb hts inUX2 tyX2 tyX2_ok nmX2 hown hK hP hD hS 0 rfl rfl 5 (by decide) (hts _ wd_124) (fun _ h9 => h9) rfl hin rfl (by decide +kernel) rfl rfl (Nat.le_of_ble_eq_true rfl) dX2_init_33 (fun H locs hP1 hD1 hS1 => ?_)
  replace hS := hS1
  clear hS1
  replace hP : va_P D vwCl [(h0, .inr (2, [.int 0, .int 0, .ref g7, .ref g15, .ref g23, .ref g31, .null])), (g7, .inl (cy.1, 12, .inl (fun _ => 0))), (g15, .inl (cy.1, 12, .inl (fun _ => 0))), (g23, .inl (cy.1, 12, .inl (fun _ => 0))), (g31, .inl (cy.1, 7, .inl (fun _ => 0)))] H := hP1
  replace hD : va_D A [(h0, .inr (2, [.int 0, .int 0, .ref g7, .ref g15, .ref g23, .ref g31, .null])), (g7, .inl (cy.1, 12, .inl (fun _ => 0))), (g15, .inl (cy.1, 12, .inl (fun _ => 0))), (g23, .inl (cy.1, 12, .inl (fun _ => 0))), (g31, .inl (cy.1, 7, .inl (fun _ => 0)))] := hD1
  clear hP1 hD1
  refine lv_aload_n hx hb dX2_init_36 rfl (lv_at hl 0 rfl) ?_
  refine lv_bipush (v := 7) hx hb dX2_init_37 (by decide) ?_
  refine r_newi (N' := 7) hC hP hD hS hA (hts _ wd_621) (by decide) (by decide) (Nat.le_of_ble_eq_true rfl) (Nat.le_of_ble_eq_true rfl) (Nat.le_of_ble_eq_true rfl) dX2_init_39 (fun g39 H hP1 hD1 hS1 => ?_)
  replace hS := hS1
  clear hS1
  replace hP : va_P D vwCl [(h0, .inr (2, [.int 0, .int 0, .ref g7, .ref g15, .ref g23, .ref g31, .null])), (g7, .inl (cy.1, 12, .inl (fun _ => 0))), (g15, .inl (cy.1, 12, .inl (fun _ => 0))), (g23, .inl (cy.1, 12, .inl (fun _ => 0))), (g31, .inl (cy.1, 7, .inl (fun _ => 0))), (g39, .inl (cy.1, 7, .inl (fun _ => 0)))] H := hP1
  replace hD : va_D A [(h0, .inr (2, [.int 0, .int 0, .ref g7, .ref g15, .ref g23, .ref g31, .null])), (g7, .inl (cy.1, 12, .inl (fun _ => 0))), (g15, .inl (cy.1, 12, .inl (fun _ => 0))), (g23, .inl (cy.1, 12, .inl (fun _ => 0))), (g31, .inl (cy.1, 7, .inl (fun _ => 0))), (g39, .inl (cy.1, 7, .inl (fun _ => 0)))] := hD1
  clear hP1 hD1
  refine W.widen (k := 5) (n := 50) (by omega) (by omega) ?_
  refine va_putF (D := D) (ci := 2) (v := .ref g39) (ty := .array .int) (C := RX2) (T := TX2) (N := 7) hx hb hts inUX2 tyX2 tyX2_ok nmX2 hown hK hP hD hS 0 rfl rfl 6 (by decide) (hts _ wd_125) (fun _ h9 => h9) rfl hin rfl (by decide +kernel) rfl rfl (Nat.le_of_ble_eq_true rfl) dX2_init_41 (fun H locs hP1 hD1 hS1 => ?_)
  replace hS := hS1
  clear hS1
  replace hP : va_P D vwCl [(h0, .inr (2, [.int 0, .int 0, .ref g7, .ref g15, .ref g23, .ref g31, .ref g39])), (g7, .inl (cy.1, 12, .inl (fun _ => 0))), (g15, .inl (cy.1, 12, .inl (fun _ => 0))), (g23, .inl (cy.1, 12, .inl (fun _ => 0))), (g31, .inl (cy.1, 7, .inl (fun _ => 0))), (g39, .inl (cy.1, 7, .inl (fun _ => 0)))] H := hP1
  replace hD : va_D A [(h0, .inr (2, [.int 0, .int 0, .ref g7, .ref g15, .ref g23, .ref g31, .ref g39])), (g7, .inl (cy.1, 12, .inl (fun _ => 0))), (g15, .inl (cy.1, 12, .inl (fun _ => 0))), (g23, .inl (cy.1, 12, .inl (fun _ => 0))), (g31, .inl (cy.1, 7, .inl (fun _ => 0))), (g39, .inl (cy.1, 7, .inl (fun _ => 0)))] := hD1
  clear hP1 hD1
  exact W.vret hx hb hr (fun t ht hV => ⟨⟨(), rfl, trivial, g7, g15, g23, g31, g39, by rw [ht]; exact hP, hD⟩, hS.F ht⟩) hS.2.2 dX2_init_44 hlocks
set_option maxHeartbeats 8000000 in
set_option maxRecDepth 100000 in
theorem c_X3_init (l : Launch) (D : va_G) (cy : ClassId × ClassId) (A : Nat → Prop) (h0 : Nat) : Met l yX3_init us_X3_init ({ frames := 1, cells := 1, slots := 60, locals := 12 } : Room) (va_Pc [.ref h0] (fun U => va_P D vwCl [(h0, .inr (3, [.int 0, .null]))] U.heap ∧ va_K D vwCl [(cy.1, .int), (cy.2, .boolean)] U ∧ va_D A [(h0, .inr (3, [.int 0, .null]))] ∧ (∀ q, U.heap.size ≤ q → A q) ∧ NL U)) (va_Qv (fun _ : Unit => True) (fun _ t => ∃ (u1 : Nat), va_P D vwCl [(h0, .inr (3, [.int 0, .ref u1])), (u1, .inl (cy.1, 60, .inl (fun _ => 0)))] t.heap ∧ va_D A [(h0, .inr (3, [.int 0, .ref u1])), (u1, .inl (cy.1, 60, .inl (fun _ => 0)))]) A) 1 60 A := by
  refine Met.ofW (cc := cX3_init) (maxL := 1) (ret := none) (by decide) rfl ?_
  intro p e s m args below meth c s₁ B hml hv
  obtain ⟨rfl, hP, hK, hD, hA, hN⟩ := hv
  have hx := B.exec
  have hb := B.bytes
  have hr := B.returns
  have hlocks := B.notSynchronized
  have hin : meth.name = "<init>" := (name_of_methodNamed B.named B.method).1
  have hts : ∀ w ∈ wsU, w.before _ s = true := fun w h => atoms_spec (ws := us_X3_init) B.pre w (List.mem_cons_of_mem _ h)
  have hown : s.vm.findClass RX3 = some m.cls := findClass_of_methodNamed B.named
  have hC : Cx p m c cX3_init 1 s _ wsU RX3 D cy := ⟨⟨hx, hb, hml, hown, hts⟩, hK, hN⟩
  have hS : va_S A s.heap s.heap [] := va_S.rf
  have hl := lv_entry ([.ref h0]) (n := 1) (Nat.le_of_ble_eq_true rfl)
  rw [lg_entry_eq]
  generalize (lg_sl ([.ref h0]) ++ List.replicate (1 - (lg_sl ([.ref h0])).length) Slot.unset).toArray = ls at hl ⊢
  have hl : lv_has ls 1 [(0, .ref h0)] := hl
  refine lv_aload_n hx hb dX3_init_0 rfl (lv_at hl 0 rfl) ?_
  refine W.objInit hx hb hown (hts _ wd_594) (hts _ wd_619) (hts _ wd_620) rfl (by rw [hml]; exact hl.1) rfl dX3_init_1 (Nat.le_of_ble_eq_true rfl) (Nat.le_of_ble_eq_true rfl) ?_
  refine W.eq (g2 := F0 m 4 ls []) rfl ?_
  refine lv_aload_n hx hb dX3_init_4 rfl (lv_at hl 0 rfl) ?_
  refine lv_bipush (v := 60) hx hb dX3_init_5 (by decide) ?_
  refine r_newi (N' := 60) hC hP hD hS hA (hts _ wd_621) (by decide) (by decide) (Nat.le_of_ble_eq_true rfl) (Nat.le_of_ble_eq_true rfl) (Nat.le_of_ble_eq_true rfl) dX3_init_7 (fun g7 H hP1 hD1 hS1 => ?_)
  replace hS := hS1
  clear hS1
  replace hP : va_P D vwCl [(h0, .inr (3, [.int 0, .null])), (g7, .inl (cy.1, 60, .inl (fun _ => 0)))] H := hP1
  replace hD : va_D A [(h0, .inr (3, [.int 0, .null])), (g7, .inl (cy.1, 60, .inl (fun _ => 0)))] := hD1
  clear hP1 hD1
  refine W.widen (k := 1) (n := 60) (by omega) (by omega) ?_
  refine va_putF (D := D) (ci := 3) (v := .ref g7) (ty := .array .int) (C := RX3) (T := TX3) (N := 2) hx hb hts inUX3 tyX3 tyX3_ok nmX3 hown hK hP hD hS 0 rfl rfl 1 (by decide) (hts _ wd_99) (fun _ h9 => h9) rfl hin rfl (by decide +kernel) rfl rfl (Nat.le_of_ble_eq_true rfl) dX3_init_9 (fun H locs hP1 hD1 hS1 => ?_)
  replace hS := hS1
  clear hS1
  replace hP : va_P D vwCl [(h0, .inr (3, [.int 0, .ref g7])), (g7, .inl (cy.1, 60, .inl (fun _ => 0)))] H := hP1
  replace hD : va_D A [(h0, .inr (3, [.int 0, .ref g7])), (g7, .inl (cy.1, 60, .inl (fun _ => 0)))] := hD1
  clear hP1 hD1
  exact W.vret hx hb hr (fun t ht hV => ⟨⟨(), rfl, trivial, g7, by rw [ht]; exact hP, hD⟩, hS.F ht⟩) hS.2.2 dX3_init_12 hlocks
set_option maxHeartbeats 8000000 in
set_option maxRecDepth 100000 in
theorem c_X4_init (l : Launch) (D : va_G) (cy : ClassId × ClassId) (A : Nat → Prop) (h0 : Nat) : Met l yX4_init us_X4_init ({ frames := 2, cells := 9, slots := 103, locals := 32 } : Room) (va_Pc [.ref h0] (fun U => va_P D vwCl [(h0, .inr (4, [.null, .null, .int 0]))] U.heap ∧ va_K D vwCl [(cy.1, .int), (cy.2, .boolean)] U ∧ va_D A [(h0, .inr (4, [.null, .null, .int 0]))] ∧ (∀ q, U.heap.size ≤ q → A q) ∧ NL U)) (va_Qv (fun _ : Unit => True) (fun _ t => ∃ (u1 u2 u3 u4 u5 u6 u7 u8 u9 : Nat), va_P D vwCl [(h0, .inr (4, [.ref u1, .ref u4, .int 0])), (u1, .inr (0, [.int 0, .int 0, .ref u2, .ref u3])), (u2, .inl (cy.1, 7, .inl (fun _ => 0))), (u3, .inl (cy.1, 35, .inl (fun _ => 0))), (u4, .inr (2, [.int 0, .int 0, .ref u5, .ref u6, .ref u7, .ref u8, .ref u9])), (u5, .inl (cy.1, 12, .inl (fun _ => 0))), (u6, .inl (cy.1, 12, .inl (fun _ => 0))), (u7, .inl (cy.1, 12, .inl (fun _ => 0))), (u8, .inl (cy.1, 7, .inl (fun _ => 0))), (u9, .inl (cy.1, 7, .inl (fun _ => 0)))] t.heap ∧ va_D A [(h0, .inr (4, [.ref u1, .ref u4, .int 0])), (u1, .inr (0, [.int 0, .int 0, .ref u2, .ref u3])), (u2, .inl (cy.1, 7, .inl (fun _ => 0))), (u3, .inl (cy.1, 35, .inl (fun _ => 0))), (u4, .inr (2, [.int 0, .int 0, .ref u5, .ref u6, .ref u7, .ref u8, .ref u9])), (u5, .inl (cy.1, 12, .inl (fun _ => 0))), (u6, .inl (cy.1, 12, .inl (fun _ => 0))), (u7, .inl (cy.1, 12, .inl (fun _ => 0))), (u8, .inl (cy.1, 7, .inl (fun _ => 0))), (u9, .inl (cy.1, 7, .inl (fun _ => 0)))]) A) 9 103 A := by
  refine Met.ofW (cc := cX4_init) (maxL := 1) (ret := none) (by decide) rfl ?_
  intro p e s m args below meth c s₁ B hml hv
  obtain ⟨rfl, hP, hK, hD, hA, hN⟩ := hv
  have hx := B.exec
  have hb := B.bytes
  have hr := B.returns
  have hlocks := B.notSynchronized
  have hin : meth.name = "<init>" := (name_of_methodNamed B.named B.method).1
  have hts : ∀ w ∈ wsU, w.before _ s = true := fun w h => atoms_spec (ws := us_X4_init) B.pre w (List.mem_cons_of_mem _ h)
  have hown : s.vm.findClass RX4 = some m.cls := findClass_of_methodNamed B.named
  have hC : Cx p m c cX4_init 1 s _ wsU RX4 D cy := ⟨⟨hx, hb, hml, hown, hts⟩, hK, hN⟩
  have hS : va_S A s.heap s.heap [] := va_S.rf
  have hl := lv_entry ([.ref h0]) (n := 1) (Nat.le_of_ble_eq_true rfl)
  rw [lg_entry_eq]
  generalize (lg_sl ([.ref h0]) ++ List.replicate (1 - (lg_sl ([.ref h0])).length) Slot.unset).toArray = ls at hl ⊢
  have hl : lv_has ls 1 [(0, .ref h0)] := hl
  refine lv_aload_n hx hb dX4_init_0 rfl (lv_at hl 0 rfl) ?_
  refine W.objInit hx hb hown (hts _ wd_598) (hts _ wd_619) (hts _ wd_620) rfl (by rw [hml]; exact hl.1) rfl dX4_init_1 (Nat.le_of_ble_eq_true rfl) (Nat.le_of_ble_eq_true rfl) ?_
  refine W.eq (g2 := F0 m 4 ls []) rfl ?_
  refine lv_aload_n hx hb dX4_init_4 rfl (lv_at hl 0 rfl) ?_
  refine va_new (ci := 0) (fs := [.int 0, .int 0, .null, .null]) (C := RX0) (T := TX0) (N := 4) hx hb hts inUX0 tyX0 tyX0_ok hown (hts _ wd_599) (hts _ wd_580) (hts _ wd_12) hK hP hD hS hA rfl (fun j hj => by revert j; decide +kernel) (Nat.le_of_ble_eq_true rfl) (Nat.le_of_ble_eq_true rfl) dX4_init_5 (fun g5 H hP1 hD1 hS1 => ?_)
  replace hS := hS1
  clear hS1
  replace hP : va_P D vwCl [(h0, .inr (4, [.null, .null, .int 0])), (g5, .inr (0, [.int 0, .int 0, .null, .null]))] H := hP1
  replace hD : va_D A [(h0, .inr (4, [.null, .null, .int 0])), (g5, .inr (0, [.int 0, .int 0, .null, .null]))] := hD1
  clear hP1 hD1
  refine W.widen (k := 1) (n := 4) (by omega) (by omega) ?_
  refine lv_dup hx hb dX4_init_8 rfl ?_
  have hPc := last_P (wr := [(h0, .inr (4, [.null, .null, .int 0]))]) (x := (g5, .inr (0, [.int 0, .int 0, .null, .null]))) hP
  have hDc := last_D (wr := [(h0, .inr (4, [.null, .null, .int 0]))]) (x := (g5, .inr (0, [.int 0, .int 0, .null, .null]))) hD
  have hFc := last_F (wr := [(h0, .inr (4, [.null, .null, .int 0]))]) (x := (g5, .inr (0, [.int 0, .int 0, .null, .null]))) hD hS hA
  refine va_callv (va_runIN (As := []) (rest := [.ref g5, .ref h0]) ⟨hx, hb, hml, hown, hts⟩ (c_X0_init l D cy (va_A [(g5, .inr (0, [.int 0, .int 0, .null, .null]))] H.size) g5) ⟨va_cnB 0 hts (gdN wd_578) rfl rfl rfl (NL.at hN nw_RX4_9 rfl) (hts _ wd_12) (by decide +kernel) ⟨Nat.le_of_ble_eq_true rfl, Nat.le_of_ble_eq_true rfl⟩, rfl, hts _ wd_579⟩ ⟨fun a U g mk q => by obtain ⟨q0, qP, qK, qD, qA, qN⟩ := q; exact ⟨q0, qP, va_K.moved (u := U) (U := U.calling g mk a) (Vm.Alike.refl U.vm) qK, qD, qA, NL.same (u := U) (U := U.calling g mk a) rfl qN⟩, fun U hU hV => ⟨rfl, by rw [hU]; exact hPc, va_K.moved hV.alike hK, hDc.self, fun q hq => Or.inr (by rw [hU] at hq; exact hq), hN.warm hV⟩⟩ rfl rfl hl.1 rfl (lv_room (Nat.le_of_ble_eq_true rfl)) dX4_init_9 ⟨Nat.le_of_ble_eq_true rfl, Nat.le_of_ble_eq_true rfl⟩) hS (fun q _ h => hFc q h) hFc (fun u t H1 locs ht hvm hw hB hz1 hk1 hS1 => ?_)
  obtain ⟨w9_1, w9_2, hP1, hD1⟩ := hB
  rw [ht] at hP1
  have hJ := join_last (wr := [(h0, .inr (4, [.null, .null, .int 0]))]) (w1 := [(g5, .inr (0, [.int 0, .int 0, .ref w9_1, .ref w9_2])), (w9_1, .inl (cy.1, 7, .inl (fun _ => 0))), (w9_2, .inl (cy.1, 35, .inl (fun _ => 0)))]) (x := (g5, .inr (0, [.int 0, .int 0, .null, .null]))) hP hD hk1 hFc hP1 hD1
  clear hP hD hPc hDc hFc hP1 hD1 hk1
  generalize H1 = H at hJ hS1 ⊢
  have hP : va_P D vwCl [(h0, .inr (4, [.null, .null, .int 0])), (g5, .inr (0, [.int 0, .int 0, .ref w9_1, .ref w9_2])), (w9_1, .inl (cy.1, 7, .inl (fun _ => 0))), (w9_2, .inl (cy.1, 35, .inl (fun _ => 0)))] H := hJ.1
  have hD : va_D A [(h0, .inr (4, [.null, .null, .int 0])), (g5, .inr (0, [.int 0, .int 0, .ref w9_1, .ref w9_2])), (w9_1, .inl (cy.1, 7, .inl (fun _ => 0))), (w9_2, .inl (cy.1, 35, .inl (fun _ => 0)))] := hJ.2
  replace hS := hS1
  clear hS1 hJ
  refine W.widen (k := 3) (n := 46) (by omega) (by omega) ?_
  refine va_putF (D := D) (ci := 4) (v := .ref g5) (ty := .object "EggOrder$Coop") (C := RX4) (T := TX4) (N := 3) hx hb hts inUX4 tyX4 tyX4_ok nmX4 hown hK hP hD hS 0 rfl rfl 0 (by decide) (hts _ wd_136) (fun _ h9 => h9) rfl hin rfl (by decide +kernel) rfl rfl (Nat.le_of_ble_eq_true rfl) dX4_init_12 (fun H locs hP1 hD1 hS1 => ?_)
  replace hS := hS1
  clear hS1
  replace hP : va_P D vwCl [(h0, .inr (4, [.ref g5, .null, .int 0])), (g5, .inr (0, [.int 0, .int 0, .ref w9_1, .ref w9_2])), (w9_1, .inl (cy.1, 7, .inl (fun _ => 0))), (w9_2, .inl (cy.1, 35, .inl (fun _ => 0)))] H := hP1
  replace hD : va_D A [(h0, .inr (4, [.ref g5, .null, .int 0])), (g5, .inr (0, [.int 0, .int 0, .ref w9_1, .ref w9_2])), (w9_1, .inl (cy.1, 7, .inl (fun _ => 0))), (w9_2, .inl (cy.1, 35, .inl (fun _ => 0)))] := hD1
  clear hP1 hD1
  refine lv_aload_n hx hb dX4_init_15 rfl (lv_at hl 0 rfl) ?_
  refine va_new (ci := 2) (fs := [.int 0, .int 0, .null, .null, .null, .null, .null]) (C := RX2) (T := TX2) (N := 7) hx hb hts inUX2 tyX2 tyX2_ok hown (hts _ wd_600) (hts _ wd_589) (hts _ wd_139) hK hP hD hS hA rfl (fun j hj => by revert j; decide +kernel) (Nat.le_of_ble_eq_true rfl) (Nat.le_of_ble_eq_true rfl) dX4_init_16 (fun g16 H hP1 hD1 hS1 => ?_)
  replace hS := hS1
  clear hS1
  replace hP : va_P D vwCl [(h0, .inr (4, [.ref g5, .null, .int 0])), (g5, .inr (0, [.int 0, .int 0, .ref w9_1, .ref w9_2])), (w9_1, .inl (cy.1, 7, .inl (fun _ => 0))), (w9_2, .inl (cy.1, 35, .inl (fun _ => 0))), (g16, .inr (2, [.int 0, .int 0, .null, .null, .null, .null, .null]))] H := hP1
  replace hD : va_D A [(h0, .inr (4, [.ref g5, .null, .int 0])), (g5, .inr (0, [.int 0, .int 0, .ref w9_1, .ref w9_2])), (w9_1, .inl (cy.1, 7, .inl (fun _ => 0))), (w9_2, .inl (cy.1, 35, .inl (fun _ => 0))), (g16, .inr (2, [.int 0, .int 0, .null, .null, .null, .null, .null]))] := hD1
  clear hP1 hD1
  refine W.widen (k := 4) (n := 53) (by omega) (by omega) ?_
  refine lv_dup hx hb dX4_init_19 rfl ?_
  have hPc := last_P (wr := [(h0, .inr (4, [.ref g5, .null, .int 0])), (g5, .inr (0, [.int 0, .int 0, .ref w9_1, .ref w9_2])), (w9_1, .inl (cy.1, 7, .inl (fun _ => 0))), (w9_2, .inl (cy.1, 35, .inl (fun _ => 0)))]) (x := (g16, .inr (2, [.int 0, .int 0, .null, .null, .null, .null, .null]))) hP
  have hDc := last_D (wr := [(h0, .inr (4, [.ref g5, .null, .int 0])), (g5, .inr (0, [.int 0, .int 0, .ref w9_1, .ref w9_2])), (w9_1, .inl (cy.1, 7, .inl (fun _ => 0))), (w9_2, .inl (cy.1, 35, .inl (fun _ => 0)))]) (x := (g16, .inr (2, [.int 0, .int 0, .null, .null, .null, .null, .null]))) hD
  have hFc := last_F (wr := [(h0, .inr (4, [.ref g5, .null, .int 0])), (g5, .inr (0, [.int 0, .int 0, .ref w9_1, .ref w9_2])), (w9_1, .inl (cy.1, 7, .inl (fun _ => 0))), (w9_2, .inl (cy.1, 35, .inl (fun _ => 0)))]) (x := (g16, .inr (2, [.int 0, .int 0, .null, .null, .null, .null, .null]))) hD hS hA
  refine va_callv (va_runIN (As := []) (rest := [.ref g16, .ref h0]) ⟨hx, hb, hml, hown, hts⟩ (c_X2_init l D cy (va_A [(g16, .inr (2, [.int 0, .int 0, .null, .null, .null, .null, .null]))] H.size) g16) ⟨va_cnB 0 hts (gdN wd_587) rfl rfl rfl (NL.at hN nw_RX4_18 rfl) (hts _ wd_139) (by decide +kernel) ⟨Nat.le_of_ble_eq_true rfl, Nat.le_of_ble_eq_true rfl⟩, rfl, hts _ wd_588⟩ ⟨fun a U g mk q => by obtain ⟨q0, qP, qK, qD, qA, qN⟩ := q; exact ⟨q0, qP, va_K.moved (u := U) (U := U.calling g mk a) (Vm.Alike.refl U.vm) qK, qD, qA, NL.same (u := U) (U := U.calling g mk a) rfl qN⟩, fun U hU hV => ⟨rfl, by rw [hU]; exact hPc, va_K.moved hV.alike hK, hDc.self, fun q hq => Or.inr (by rw [hU] at hq; exact hq), hN.warm hV⟩⟩ rfl rfl hl.1 rfl (lv_room (Nat.le_of_ble_eq_true rfl)) dX4_init_20 ⟨Nat.le_of_ble_eq_true rfl, Nat.le_of_ble_eq_true rfl⟩) hS (fun q _ h => hFc q h) hFc (fun u t H1 locs ht hvm hw hB hz1 hk1 hS1 => ?_)
  obtain ⟨w20_1, w20_2, w20_3, w20_4, w20_5, hP1, hD1⟩ := hB
  rw [ht] at hP1
  have hJ := join_last (wr := [(h0, .inr (4, [.ref g5, .null, .int 0])), (g5, .inr (0, [.int 0, .int 0, .ref w9_1, .ref w9_2])), (w9_1, .inl (cy.1, 7, .inl (fun _ => 0))), (w9_2, .inl (cy.1, 35, .inl (fun _ => 0)))]) (w1 := [(g16, .inr (2, [.int 0, .int 0, .ref w20_1, .ref w20_2, .ref w20_3, .ref w20_4, .ref w20_5])), (w20_1, .inl (cy.1, 12, .inl (fun _ => 0))), (w20_2, .inl (cy.1, 12, .inl (fun _ => 0))), (w20_3, .inl (cy.1, 12, .inl (fun _ => 0))), (w20_4, .inl (cy.1, 7, .inl (fun _ => 0))), (w20_5, .inl (cy.1, 7, .inl (fun _ => 0)))]) (x := (g16, .inr (2, [.int 0, .int 0, .null, .null, .null, .null, .null]))) hP hD hk1 hFc hP1 hD1
  clear hP hD hPc hDc hFc hP1 hD1 hk1
  generalize H1 = H at hJ hS1 ⊢
  have hP : va_P D vwCl [(h0, .inr (4, [.ref g5, .null, .int 0])), (g5, .inr (0, [.int 0, .int 0, .ref w9_1, .ref w9_2])), (w9_1, .inl (cy.1, 7, .inl (fun _ => 0))), (w9_2, .inl (cy.1, 35, .inl (fun _ => 0))), (g16, .inr (2, [.int 0, .int 0, .ref w20_1, .ref w20_2, .ref w20_3, .ref w20_4, .ref w20_5])), (w20_1, .inl (cy.1, 12, .inl (fun _ => 0))), (w20_2, .inl (cy.1, 12, .inl (fun _ => 0))), (w20_3, .inl (cy.1, 12, .inl (fun _ => 0))), (w20_4, .inl (cy.1, 7, .inl (fun _ => 0))), (w20_5, .inl (cy.1, 7, .inl (fun _ => 0)))] H := hJ.1
  have hD : va_D A [(h0, .inr (4, [.ref g5, .null, .int 0])), (g5, .inr (0, [.int 0, .int 0, .ref w9_1, .ref w9_2])), (w9_1, .inl (cy.1, 7, .inl (fun _ => 0))), (w9_2, .inl (cy.1, 35, .inl (fun _ => 0))), (g16, .inr (2, [.int 0, .int 0, .ref w20_1, .ref w20_2, .ref w20_3, .ref w20_4, .ref w20_5])), (w20_1, .inl (cy.1, 12, .inl (fun _ => 0))), (w20_2, .inl (cy.1, 12, .inl (fun _ => 0))), (w20_3, .inl (cy.1, 12, .inl (fun _ => 0))), (w20_4, .inl (cy.1, 7, .inl (fun _ => 0))), (w20_5, .inl (cy.1, 7, .inl (fun _ => 0)))] := hJ.2
  replace hS := hS1
  clear hS1 hJ
  refine W.widen (k := 9) (n := 103) (by omega) (by omega) ?_
  refine va_putF (D := D) (ci := 4) (v := .ref g16) (ty := .object "EggOrder$Hints") (C := RX4) (T := TX4) (N := 3) hx hb hts inUX4 tyX4 tyX4_ok nmX4 hown hK hP hD hS 0 rfl rfl 1 (by decide) (hts _ wd_137) (fun _ h9 => h9) rfl hin rfl (by decide +kernel) rfl rfl (Nat.le_of_ble_eq_true rfl) dX4_init_23 (fun H locs hP1 hD1 hS1 => ?_)
  replace hS := hS1
  clear hS1
  replace hP : va_P D vwCl [(h0, .inr (4, [.ref g5, .ref g16, .int 0])), (g5, .inr (0, [.int 0, .int 0, .ref w9_1, .ref w9_2])), (w9_1, .inl (cy.1, 7, .inl (fun _ => 0))), (w9_2, .inl (cy.1, 35, .inl (fun _ => 0))), (g16, .inr (2, [.int 0, .int 0, .ref w20_1, .ref w20_2, .ref w20_3, .ref w20_4, .ref w20_5])), (w20_1, .inl (cy.1, 12, .inl (fun _ => 0))), (w20_2, .inl (cy.1, 12, .inl (fun _ => 0))), (w20_3, .inl (cy.1, 12, .inl (fun _ => 0))), (w20_4, .inl (cy.1, 7, .inl (fun _ => 0))), (w20_5, .inl (cy.1, 7, .inl (fun _ => 0)))] H := hP1
  replace hD : va_D A [(h0, .inr (4, [.ref g5, .ref g16, .int 0])), (g5, .inr (0, [.int 0, .int 0, .ref w9_1, .ref w9_2])), (w9_1, .inl (cy.1, 7, .inl (fun _ => 0))), (w9_2, .inl (cy.1, 35, .inl (fun _ => 0))), (g16, .inr (2, [.int 0, .int 0, .ref w20_1, .ref w20_2, .ref w20_3, .ref w20_4, .ref w20_5])), (w20_1, .inl (cy.1, 12, .inl (fun _ => 0))), (w20_2, .inl (cy.1, 12, .inl (fun _ => 0))), (w20_3, .inl (cy.1, 12, .inl (fun _ => 0))), (w20_4, .inl (cy.1, 7, .inl (fun _ => 0))), (w20_5, .inl (cy.1, 7, .inl (fun _ => 0)))] := hD1
  clear hP1 hD1
  exact W.vret hx hb hr (fun t ht hV => ⟨⟨(), rfl, trivial, g5, w9_1, w9_2, g16, w20_1, w20_2, w20_3, w20_4, w20_5, by rw [ht]; exact hP, hD⟩, hS.F ht⟩) hS.2.2 dX4_init_26 hlocks
set_option maxHeartbeats 8000000 in
set_option maxRecDepth 100000 in
theorem c_X5_init (l : Launch) (D : va_G) (cy : ClassId × ClassId) (A : Nat → Prop) (h0 : Nat) : Met l yX5_init us_X5_init ({ frames := 2, cells := 4, slots := 53, locals := 32 } : Room) (va_Pc [.ref h0] (fun U => va_P D vwCl [(h0, .inr (5, [.null, .null, .int 0, .int 0, .int 0, .int 0]))] U.heap ∧ va_K D vwCl [(cy.1, .int), (cy.2, .boolean)] U ∧ va_D A [(h0, .inr (5, [.null, .null, .int 0, .int 0, .int 0, .int 0]))] ∧ (∀ q, U.heap.size ≤ q → A q) ∧ NL U)) (va_Qv (fun _ : Unit => True) (fun _ t => ∃ (u1 u2 u3 u4 : Nat), va_P D vwCl [(h0, .inr (5, [.ref u1, .ref u4, .int 0, .int 0, .int 0, .int 0])), (u1, .inr (0, [.int 0, .int 0, .ref u2, .ref u3])), (u2, .inl (cy.1, 7, .inl (fun _ => 0))), (u3, .inl (cy.1, 35, .inl (fun _ => 0))), (u4, .inl (cy.1, 7, .inl (fun _ => 0)))] t.heap ∧ va_D A [(h0, .inr (5, [.ref u1, .ref u4, .int 0, .int 0, .int 0, .int 0])), (u1, .inr (0, [.int 0, .int 0, .ref u2, .ref u3])), (u2, .inl (cy.1, 7, .inl (fun _ => 0))), (u3, .inl (cy.1, 35, .inl (fun _ => 0))), (u4, .inl (cy.1, 7, .inl (fun _ => 0)))]) A) 4 53 A := by
  refine Met.ofW (cc := cX5_init) (maxL := 1) (ret := none) (by decide) rfl ?_
  intro p e s m args below meth c s₁ B hml hv
  obtain ⟨rfl, hP, hK, hD, hA, hN⟩ := hv
  have hx := B.exec
  have hb := B.bytes
  have hr := B.returns
  have hlocks := B.notSynchronized
  have hin : meth.name = "<init>" := (name_of_methodNamed B.named B.method).1
  have hts : ∀ w ∈ wsU, w.before _ s = true := fun w h => atoms_spec (ws := us_X5_init) B.pre w (List.mem_cons_of_mem _ h)
  have hown : s.vm.findClass RX5 = some m.cls := findClass_of_methodNamed B.named
  have hC : Cx p m c cX5_init 1 s _ wsU RX5 D cy := ⟨⟨hx, hb, hml, hown, hts⟩, hK, hN⟩
  have hS : va_S A s.heap s.heap [] := va_S.rf
  have hl := lv_entry ([.ref h0]) (n := 1) (Nat.le_of_ble_eq_true rfl)
  rw [lg_entry_eq]
  generalize (lg_sl ([.ref h0]) ++ List.replicate (1 - (lg_sl ([.ref h0])).length) Slot.unset).toArray = ls at hl ⊢
  have hl : lv_has ls 1 [(0, .ref h0)] := hl
  refine lv_aload_n hx hb dX5_init_0 rfl (lv_at hl 0 rfl) ?_
  refine W.objInit hx hb hown (hts _ wd_604) (hts _ wd_619) (hts _ wd_620) rfl (by rw [hml]; exact hl.1) rfl dX5_init_1 (Nat.le_of_ble_eq_true rfl) (Nat.le_of_ble_eq_true rfl) ?_
  refine W.eq (g2 := F0 m 4 ls []) rfl ?_
  refine lv_aload_n hx hb dX5_init_4 rfl (lv_at hl 0 rfl) ?_
  refine va_new (ci := 0) (fs := [.int 0, .int 0, .null, .null]) (C := RX0) (T := TX0) (N := 4) hx hb hts inUX0 tyX0 tyX0_ok hown (hts _ wd_605) (hts _ wd_580) (hts _ wd_12) hK hP hD hS hA rfl (fun j hj => by revert j; decide +kernel) (Nat.le_of_ble_eq_true rfl) (Nat.le_of_ble_eq_true rfl) dX5_init_5 (fun g5 H hP1 hD1 hS1 => ?_)
  replace hS := hS1
  clear hS1
  replace hP : va_P D vwCl [(h0, .inr (5, [.null, .null, .int 0, .int 0, .int 0, .int 0])), (g5, .inr (0, [.int 0, .int 0, .null, .null]))] H := hP1
  replace hD : va_D A [(h0, .inr (5, [.null, .null, .int 0, .int 0, .int 0, .int 0])), (g5, .inr (0, [.int 0, .int 0, .null, .null]))] := hD1
  clear hP1 hD1
  refine W.widen (k := 1) (n := 4) (by omega) (by omega) ?_
  refine lv_dup hx hb dX5_init_8 rfl ?_
  have hPc := last_P (wr := [(h0, .inr (5, [.null, .null, .int 0, .int 0, .int 0, .int 0]))]) (x := (g5, .inr (0, [.int 0, .int 0, .null, .null]))) hP
  have hDc := last_D (wr := [(h0, .inr (5, [.null, .null, .int 0, .int 0, .int 0, .int 0]))]) (x := (g5, .inr (0, [.int 0, .int 0, .null, .null]))) hD
  have hFc := last_F (wr := [(h0, .inr (5, [.null, .null, .int 0, .int 0, .int 0, .int 0]))]) (x := (g5, .inr (0, [.int 0, .int 0, .null, .null]))) hD hS hA
  refine va_callv (va_runIN (As := []) (rest := [.ref g5, .ref h0]) ⟨hx, hb, hml, hown, hts⟩ (c_X0_init l D cy (va_A [(g5, .inr (0, [.int 0, .int 0, .null, .null]))] H.size) g5) ⟨va_cnB 0 hts (gdN wd_578) rfl rfl rfl (NL.at hN nw_RX5_11 rfl) (hts _ wd_12) (by decide +kernel) ⟨Nat.le_of_ble_eq_true rfl, Nat.le_of_ble_eq_true rfl⟩, rfl, hts _ wd_579⟩ ⟨fun a U g mk q => by obtain ⟨q0, qP, qK, qD, qA, qN⟩ := q; exact ⟨q0, qP, va_K.moved (u := U) (U := U.calling g mk a) (Vm.Alike.refl U.vm) qK, qD, qA, NL.same (u := U) (U := U.calling g mk a) rfl qN⟩, fun U hU hV => ⟨rfl, by rw [hU]; exact hPc, va_K.moved hV.alike hK, hDc.self, fun q hq => Or.inr (by rw [hU] at hq; exact hq), hN.warm hV⟩⟩ rfl rfl hl.1 rfl (lv_room (Nat.le_of_ble_eq_true rfl)) dX5_init_9 ⟨Nat.le_of_ble_eq_true rfl, Nat.le_of_ble_eq_true rfl⟩) hS (fun q _ h => hFc q h) hFc (fun u t H1 locs ht hvm hw hB hz1 hk1 hS1 => ?_)
  obtain ⟨w9_1, w9_2, hP1, hD1⟩ := hB
  rw [ht] at hP1
  have hJ := join_last (wr := [(h0, .inr (5, [.null, .null, .int 0, .int 0, .int 0, .int 0]))]) (w1 := [(g5, .inr (0, [.int 0, .int 0, .ref w9_1, .ref w9_2])), (w9_1, .inl (cy.1, 7, .inl (fun _ => 0))), (w9_2, .inl (cy.1, 35, .inl (fun _ => 0)))]) (x := (g5, .inr (0, [.int 0, .int 0, .null, .null]))) hP hD hk1 hFc hP1 hD1
  clear hP hD hPc hDc hFc hP1 hD1 hk1
  generalize H1 = H at hJ hS1 ⊢
  have hP : va_P D vwCl [(h0, .inr (5, [.null, .null, .int 0, .int 0, .int 0, .int 0])), (g5, .inr (0, [.int 0, .int 0, .ref w9_1, .ref w9_2])), (w9_1, .inl (cy.1, 7, .inl (fun _ => 0))), (w9_2, .inl (cy.1, 35, .inl (fun _ => 0)))] H := hJ.1
  have hD : va_D A [(h0, .inr (5, [.null, .null, .int 0, .int 0, .int 0, .int 0])), (g5, .inr (0, [.int 0, .int 0, .ref w9_1, .ref w9_2])), (w9_1, .inl (cy.1, 7, .inl (fun _ => 0))), (w9_2, .inl (cy.1, 35, .inl (fun _ => 0)))] := hJ.2
  replace hS := hS1
  clear hS1 hJ
  refine W.widen (k := 3) (n := 46) (by omega) (by omega) ?_
  refine va_putF (D := D) (ci := 5) (v := .ref g5) (ty := .object "EggOrder$Coop") (C := RX5) (T := TX5) (N := 6) hx hb hts inUX5 tyX5 tyX5_ok nmX5 hown hK hP hD hS 0 rfl rfl 0 (by decide) (hts _ wd_142) (fun _ h9 => h9) rfl hin rfl (by decide +kernel) rfl rfl (Nat.le_of_ble_eq_true rfl) dX5_init_12 (fun H locs hP1 hD1 hS1 => ?_)
  replace hS := hS1
  clear hS1
  replace hP : va_P D vwCl [(h0, .inr (5, [.ref g5, .null, .int 0, .int 0, .int 0, .int 0])), (g5, .inr (0, [.int 0, .int 0, .ref w9_1, .ref w9_2])), (w9_1, .inl (cy.1, 7, .inl (fun _ => 0))), (w9_2, .inl (cy.1, 35, .inl (fun _ => 0)))] H := hP1
  replace hD : va_D A [(h0, .inr (5, [.ref g5, .null, .int 0, .int 0, .int 0, .int 0])), (g5, .inr (0, [.int 0, .int 0, .ref w9_1, .ref w9_2])), (w9_1, .inl (cy.1, 7, .inl (fun _ => 0))), (w9_2, .inl (cy.1, 35, .inl (fun _ => 0)))] := hD1
  clear hP1 hD1
  refine lv_aload_n hx hb dX5_init_15 rfl (lv_at hl 0 rfl) ?_
  refine lv_bipush (v := 7) hx hb dX5_init_16 (by decide) ?_
  refine r_newi (N' := 7) hC hP hD hS hA (hts _ wd_621) (by decide) (by decide) (Nat.le_of_ble_eq_true rfl) (Nat.le_of_ble_eq_true rfl) (Nat.le_of_ble_eq_true rfl) dX5_init_18 (fun g18 H hP1 hD1 hS1 => ?_)
  replace hS := hS1
  clear hS1
  replace hP : va_P D vwCl [(h0, .inr (5, [.ref g5, .null, .int 0, .int 0, .int 0, .int 0])), (g5, .inr (0, [.int 0, .int 0, .ref w9_1, .ref w9_2])), (w9_1, .inl (cy.1, 7, .inl (fun _ => 0))), (w9_2, .inl (cy.1, 35, .inl (fun _ => 0))), (g18, .inl (cy.1, 7, .inl (fun _ => 0)))] H := hP1
  replace hD : va_D A [(h0, .inr (5, [.ref g5, .null, .int 0, .int 0, .int 0, .int 0])), (g5, .inr (0, [.int 0, .int 0, .ref w9_1, .ref w9_2])), (w9_1, .inl (cy.1, 7, .inl (fun _ => 0))), (w9_2, .inl (cy.1, 35, .inl (fun _ => 0))), (g18, .inl (cy.1, 7, .inl (fun _ => 0)))] := hD1
  clear hP1 hD1
  refine W.widen (k := 4) (n := 53) (by omega) (by omega) ?_
  refine va_putF (D := D) (ci := 5) (v := .ref g18) (ty := .array .int) (C := RX5) (T := TX5) (N := 6) hx hb hts inUX5 tyX5 tyX5_ok nmX5 hown hK hP hD hS 0 rfl rfl 1 (by decide) (hts _ wd_143) (fun _ h9 => h9) rfl hin rfl (by decide +kernel) rfl rfl (Nat.le_of_ble_eq_true rfl) dX5_init_20 (fun H locs hP1 hD1 hS1 => ?_)
  replace hS := hS1
  clear hS1
  replace hP : va_P D vwCl [(h0, .inr (5, [.ref g5, .ref g18, .int 0, .int 0, .int 0, .int 0])), (g5, .inr (0, [.int 0, .int 0, .ref w9_1, .ref w9_2])), (w9_1, .inl (cy.1, 7, .inl (fun _ => 0))), (w9_2, .inl (cy.1, 35, .inl (fun _ => 0))), (g18, .inl (cy.1, 7, .inl (fun _ => 0)))] H := hP1
  replace hD : va_D A [(h0, .inr (5, [.ref g5, .ref g18, .int 0, .int 0, .int 0, .int 0])), (g5, .inr (0, [.int 0, .int 0, .ref w9_1, .ref w9_2])), (w9_1, .inl (cy.1, 7, .inl (fun _ => 0))), (w9_2, .inl (cy.1, 35, .inl (fun _ => 0))), (g18, .inl (cy.1, 7, .inl (fun _ => 0)))] := hD1
  clear hP1 hD1
  exact W.vret hx hb hr (fun t ht hV => ⟨⟨(), rfl, trivial, g5, w9_1, w9_2, g18, by rw [ht]; exact hP, hD⟩, hS.F ht⟩) hS.2.2 dX5_init_23 hlocks
set_option maxHeartbeats 8000000 in
set_option maxRecDepth 100000 in
theorem c_X1_init (l : Launch) (D : va_G) (cy : ClassId × ClassId) (A : Nat → Prop) (h0 : Nat) : Met l yX1_init us_X1_init ({ frames := 2, cells := 13, slots := 158, locals := 32 } : Room) (va_Pc [.ref h0] (fun U => va_P D vwCl [(h0, .inr (1, [.int 0, .int 0, .null, .null, .null, .null, .null, .null, .null, .null, .null, .null, .null]))] U.heap ∧ va_K D vwCl [(cy.1, .int), (cy.2, .boolean)] U ∧ va_D A [(h0, .inr (1, [.int 0, .int 0, .null, .null, .null, .null, .null, .null, .null, .null, .null, .null, .null]))] ∧ (∀ q, U.heap.size ≤ q → A q) ∧ NL U)) (va_Qv (fun _ : Unit => True) (fun _ t => ∃ (u1 u2 u3 u4 u5 u6 u7 u8 u9 u10 u11 u12 u13 : Nat), va_P D vwCl [(h0, .inr (1, [.int 0, .int 0, .ref u1, .ref u2, .ref u3, .ref u4, .ref u5, .ref u6, .ref u7, .ref u8, .ref u9, .ref u10, .ref u11])), (u1, .inl (cy.1, 7, .inl (fun _ => 0))), (u2, .inl (cy.1, 7, .inl (fun _ => 0))), (u3, .inl (cy.1, 49, .inl (fun _ => 0))), (u4, .inl (cy.1, 7, .inl (fun _ => 0))), (u5, .inl (cy.1, 7, .inl (fun _ => 0))), (u6, .inl (cy.1, 7, .inl (fun _ => 0))), (u7, .inl (cy.1, 7, .inl (fun _ => 0))), (u8, .inl (cy.1, 7, .inl (fun _ => 0))), (u9, .inl (cy.1, 7, .inl (fun _ => 0))), (u10, .inl (cy.1, 7, .inl (fun _ => 0))), (u11, .inr (0, [.int 0, .int 0, .ref u12, .ref u13])), (u12, .inl (cy.1, 7, .inl (fun _ => 0))), (u13, .inl (cy.1, 35, .inl (fun _ => 0)))] t.heap ∧ va_D A [(h0, .inr (1, [.int 0, .int 0, .ref u1, .ref u2, .ref u3, .ref u4, .ref u5, .ref u6, .ref u7, .ref u8, .ref u9, .ref u10, .ref u11])), (u1, .inl (cy.1, 7, .inl (fun _ => 0))), (u2, .inl (cy.1, 7, .inl (fun _ => 0))), (u3, .inl (cy.1, 49, .inl (fun _ => 0))), (u4, .inl (cy.1, 7, .inl (fun _ => 0))), (u5, .inl (cy.1, 7, .inl (fun _ => 0))), (u6, .inl (cy.1, 7, .inl (fun _ => 0))), (u7, .inl (cy.1, 7, .inl (fun _ => 0))), (u8, .inl (cy.1, 7, .inl (fun _ => 0))), (u9, .inl (cy.1, 7, .inl (fun _ => 0))), (u10, .inl (cy.1, 7, .inl (fun _ => 0))), (u11, .inr (0, [.int 0, .int 0, .ref u12, .ref u13])), (u12, .inl (cy.1, 7, .inl (fun _ => 0))), (u13, .inl (cy.1, 35, .inl (fun _ => 0)))]) A) 13 158 A := by
  refine Met.ofW (cc := cX1_init) (maxL := 1) (ret := none) (by decide) rfl ?_
  intro p e s m args below meth c s₁ B hml hv
  obtain ⟨rfl, hP, hK, hD, hA, hN⟩ := hv
  have hx := B.exec
  have hb := B.bytes
  have hr := B.returns
  have hlocks := B.notSynchronized
  have hin : meth.name = "<init>" := (name_of_methodNamed B.named B.method).1
  have hts : ∀ w ∈ wsU, w.before _ s = true := fun w h => atoms_spec (ws := us_X1_init) B.pre w (List.mem_cons_of_mem _ h)
  have hown : s.vm.findClass RX1 = some m.cls := findClass_of_methodNamed B.named
  have hC : Cx p m c cX1_init 1 s _ wsU RX1 D cy := ⟨⟨hx, hb, hml, hown, hts⟩, hK, hN⟩
  have hS : va_S A s.heap s.heap [] := va_S.rf
  have hl := lv_entry ([.ref h0]) (n := 1) (Nat.le_of_ble_eq_true rfl)
  rw [lg_entry_eq]
  generalize (lg_sl ([.ref h0]) ++ List.replicate (1 - (lg_sl ([.ref h0])).length) Slot.unset).toArray = ls at hl ⊢
  have hl : lv_has ls 1 [(0, .ref h0)] := hl
  refine lv_aload_n hx hb dX1_init_0 rfl (lv_at hl 0 rfl) ?_
  refine W.objInit hx hb hown (hts _ wd_585) (hts _ wd_619) (hts _ wd_620) rfl (by rw [hml]; exact hl.1) rfl dX1_init_1 (Nat.le_of_ble_eq_true rfl) (Nat.le_of_ble_eq_true rfl) ?_
  refine W.eq (g2 := F0 m 4 ls []) rfl ?_
  refine lv_aload_n hx hb dX1_init_4 rfl (lv_at hl 0 rfl) ?_
  refine lv_bipush (v := 7) hx hb dX1_init_5 (by decide) ?_
  refine r_newi (N' := 7) hC hP hD hS hA (hts _ wd_621) (by decide) (by decide) (Nat.le_of_ble_eq_true rfl) (Nat.le_of_ble_eq_true rfl) (Nat.le_of_ble_eq_true rfl) dX1_init_7 (fun g7 H hP1 hD1 hS1 => ?_)
  replace hS := hS1
  clear hS1
  replace hP : va_P D vwCl [(h0, .inr (1, [.int 0, .int 0, .null, .null, .null, .null, .null, .null, .null, .null, .null, .null, .null])), (g7, .inl (cy.1, 7, .inl (fun _ => 0)))] H := hP1
  replace hD : va_D A [(h0, .inr (1, [.int 0, .int 0, .null, .null, .null, .null, .null, .null, .null, .null, .null, .null, .null])), (g7, .inl (cy.1, 7, .inl (fun _ => 0)))] := hD1
  clear hP1 hD1
  refine W.widen (k := 1) (n := 7) (by omega) (by omega) ?_
  refine va_putF (D := D) (ci := 1) (v := .ref g7) (ty := .array .int) (C := RX1) (T := TX1) (N := 13) hx hb hts inUX1 tyX1 tyX1_ok nmX1 hown hK hP hD hS 0 rfl rfl 2 (by decide) (hts _ wd_68) (fun _ h9 => h9) rfl hin rfl (by decide +kernel) rfl rfl (Nat.le_of_ble_eq_true rfl) dX1_init_9 (fun H locs hP1 hD1 hS1 => ?_)
  replace hS := hS1
  clear hS1
  replace hP : va_P D vwCl [(h0, .inr (1, [.int 0, .int 0, .ref g7, .null, .null, .null, .null, .null, .null, .null, .null, .null, .null])), (g7, .inl (cy.1, 7, .inl (fun _ => 0)))] H := hP1
  replace hD : va_D A [(h0, .inr (1, [.int 0, .int 0, .ref g7, .null, .null, .null, .null, .null, .null, .null, .null, .null, .null])), (g7, .inl (cy.1, 7, .inl (fun _ => 0)))] := hD1
  clear hP1 hD1
  refine lv_aload_n hx hb dX1_init_12 rfl (lv_at hl 0 rfl) ?_
  refine lv_bipush (v := 7) hx hb dX1_init_13 (by decide) ?_
  refine r_newi (N' := 7) hC hP hD hS hA (hts _ wd_621) (by decide) (by decide) (Nat.le_of_ble_eq_true rfl) (Nat.le_of_ble_eq_true rfl) (Nat.le_of_ble_eq_true rfl) dX1_init_15 (fun g15 H hP1 hD1 hS1 => ?_)
  replace hS := hS1
  clear hS1
  replace hP : va_P D vwCl [(h0, .inr (1, [.int 0, .int 0, .ref g7, .null, .null, .null, .null, .null, .null, .null, .null, .null, .null])), (g7, .inl (cy.1, 7, .inl (fun _ => 0))), (g15, .inl (cy.1, 7, .inl (fun _ => 0)))] H := hP1
  replace hD : va_D A [(h0, .inr (1, [.int 0, .int 0, .ref g7, .null, .null, .null, .null, .null, .null, .null, .null, .null, .null])), (g7, .inl (cy.1, 7, .inl (fun _ => 0))), (g15, .inl (cy.1, 7, .inl (fun _ => 0)))] := hD1
  clear hP1 hD1
  refine W.widen (k := 2) (n := 14) (by omega) (by omega) ?_
  refine va_putF (D := D) (ci := 1) (v := .ref g15) (ty := .array .int) (C := RX1) (T := TX1) (N := 13) hx hb hts inUX1 tyX1 tyX1_ok nmX1 hown hK hP hD hS 0 rfl rfl 3 (by decide) (hts _ wd_74) (fun _ h9 => h9) rfl hin rfl (by decide +kernel) rfl rfl (Nat.le_of_ble_eq_true rfl) dX1_init_17 (fun H locs hP1 hD1 hS1 => ?_)
  replace hS := hS1
  clear hS1
  replace hP : va_P D vwCl [(h0, .inr (1, [.int 0, .int 0, .ref g7, .ref g15, .null, .null, .null, .null, .null, .null, .null, .null, .null])), (g7, .inl (cy.1, 7, .inl (fun _ => 0))), (g15, .inl (cy.1, 7, .inl (fun _ => 0)))] H := hP1
  replace hD : va_D A [(h0, .inr (1, [.int 0, .int 0, .ref g7, .ref g15, .null, .null, .null, .null, .null, .null, .null, .null, .null])), (g7, .inl (cy.1, 7, .inl (fun _ => 0))), (g15, .inl (cy.1, 7, .inl (fun _ => 0)))] := hD1
  clear hP1 hD1
  refine lv_aload_n hx hb dX1_init_20 rfl (lv_at hl 0 rfl) ?_
  refine lv_bipush (v := 49) hx hb dX1_init_21 (by decide) ?_
  refine r_newi (N' := 49) hC hP hD hS hA (hts _ wd_621) (by decide) (by decide) (Nat.le_of_ble_eq_true rfl) (Nat.le_of_ble_eq_true rfl) (Nat.le_of_ble_eq_true rfl) dX1_init_23 (fun g23 H hP1 hD1 hS1 => ?_)
  replace hS := hS1
  clear hS1
  replace hP : va_P D vwCl [(h0, .inr (1, [.int 0, .int 0, .ref g7, .ref g15, .null, .null, .null, .null, .null, .null, .null, .null, .null])), (g7, .inl (cy.1, 7, .inl (fun _ => 0))), (g15, .inl (cy.1, 7, .inl (fun _ => 0))), (g23, .inl (cy.1, 49, .inl (fun _ => 0)))] H := hP1
  replace hD : va_D A [(h0, .inr (1, [.int 0, .int 0, .ref g7, .ref g15, .null, .null, .null, .null, .null, .null, .null, .null, .null])), (g7, .inl (cy.1, 7, .inl (fun _ => 0))), (g15, .inl (cy.1, 7, .inl (fun _ => 0))), (g23, .inl (cy.1, 49, .inl (fun _ => 0)))] := hD1
  clear hP1 hD1
  refine W.widen (k := 3) (n := 63) (by omega) (by omega) ?_
  refine va_putF (D := D) (ci := 1) (v := .ref g23) (ty := .array .int) (C := RX1) (T := TX1) (N := 13) hx hb hts inUX1 tyX1 tyX1_ok nmX1 hown hK hP hD hS 0 rfl rfl 4 (by decide) (hts _ wd_54) (fun _ h9 => h9) rfl hin rfl (by decide +kernel) rfl rfl (Nat.le_of_ble_eq_true rfl) dX1_init_25 (fun H locs hP1 hD1 hS1 => ?_)
  replace hS := hS1
  clear hS1
  replace hP : va_P D vwCl [(h0, .inr (1, [.int 0, .int 0, .ref g7, .ref g15, .ref g23, .null, .null, .null, .null, .null, .null, .null, .null])), (g7, .inl (cy.1, 7, .inl (fun _ => 0))), (g15, .inl (cy.1, 7, .inl (fun _ => 0))), (g23, .inl (cy.1, 49, .inl (fun _ => 0)))] H := hP1
  replace hD : va_D A [(h0, .inr (1, [.int 0, .int 0, .ref g7, .ref g15, .ref g23, .null, .null, .null, .null, .null, .null, .null, .null])), (g7, .inl (cy.1, 7, .inl (fun _ => 0))), (g15, .inl (cy.1, 7, .inl (fun _ => 0))), (g23, .inl (cy.1, 49, .inl (fun _ => 0)))] := hD1
  clear hP1 hD1
  refine lv_aload_n hx hb dX1_init_28 rfl (lv_at hl 0 rfl) ?_
  refine lv_bipush (v := 7) hx hb dX1_init_29 (by decide) ?_
  refine r_newi (N' := 7) hC hP hD hS hA (hts _ wd_621) (by decide) (by decide) (Nat.le_of_ble_eq_true rfl) (Nat.le_of_ble_eq_true rfl) (Nat.le_of_ble_eq_true rfl) dX1_init_31 (fun g31 H hP1 hD1 hS1 => ?_)
  replace hS := hS1
  clear hS1
  replace hP : va_P D vwCl [(h0, .inr (1, [.int 0, .int 0, .ref g7, .ref g15, .ref g23, .null, .null, .null, .null, .null, .null, .null, .null])), (g7, .inl (cy.1, 7, .inl (fun _ => 0))), (g15, .inl (cy.1, 7, .inl (fun _ => 0))), (g23, .inl (cy.1, 49, .inl (fun _ => 0))), (g31, .inl (cy.1, 7, .inl (fun _ => 0)))] H := hP1
  replace hD : va_D A [(h0, .inr (1, [.int 0, .int 0, .ref g7, .ref g15, .ref g23, .null, .null, .null, .null, .null, .null, .null, .null])), (g7, .inl (cy.1, 7, .inl (fun _ => 0))), (g15, .inl (cy.1, 7, .inl (fun _ => 0))), (g23, .inl (cy.1, 49, .inl (fun _ => 0))), (g31, .inl (cy.1, 7, .inl (fun _ => 0)))] := hD1
  clear hP1 hD1
  refine W.widen (k := 4) (n := 70) (by omega) (by omega) ?_
  refine va_putF (D := D) (ci := 1) (v := .ref g31) (ty := .array .int) (C := RX1) (T := TX1) (N := 13) hx hb hts inUX1 tyX1 tyX1_ok nmX1 hown hK hP hD hS 0 rfl rfl 5 (by decide) (hts _ wd_55) (fun _ h9 => h9) rfl hin rfl (by decide +kernel) rfl rfl (Nat.le_of_ble_eq_true rfl) dX1_init_33 (fun H locs hP1 hD1 hS1 => ?_)
  replace hS := hS1
  clear hS1
  replace hP : va_P D vwCl [(h0, .inr (1, [.int 0, .int 0, .ref g7, .ref g15, .ref g23, .ref g31, .null, .null, .null, .null, .null, .null, .null])), (g7, .inl (cy.1, 7, .inl (fun _ => 0))), (g15, .inl (cy.1, 7, .inl (fun _ => 0))), (g23, .inl (cy.1, 49, .inl (fun _ => 0))), (g31, .inl (cy.1, 7, .inl (fun _ => 0)))] H := hP1
  replace hD : va_D A [(h0, .inr (1, [.int 0, .int 0, .ref g7, .ref g15, .ref g23, .ref g31, .null, .null, .null, .null, .null, .null, .null])), (g7, .inl (cy.1, 7, .inl (fun _ => 0))), (g15, .inl (cy.1, 7, .inl (fun _ => 0))), (g23, .inl (cy.1, 49, .inl (fun _ => 0))), (g31, .inl (cy.1, 7, .inl (fun _ => 0)))] := hD1
  clear hP1 hD1
  refine lv_aload_n hx hb dX1_init_36 rfl (lv_at hl 0 rfl) ?_
  refine lv_bipush (v := 7) hx hb dX1_init_37 (by decide) ?_
  refine r_newi (N' := 7) hC hP hD hS hA (hts _ wd_621) (by decide) (by decide) (Nat.le_of_ble_eq_true rfl) (Nat.le_of_ble_eq_true rfl) (Nat.le_of_ble_eq_true rfl) dX1_init_39 (fun g39 H hP1 hD1 hS1 => ?_)
  replace hS := hS1
  clear hS1
  replace hP : va_P D vwCl [(h0, .inr (1, [.int 0, .int 0, .ref g7, .ref g15, .ref g23, .ref g31, .null, .null, .null, .null, .null, .null, .null])), (g7, .inl (cy.1, 7, .inl (fun _ => 0))), (g15, .inl (cy.1, 7, .inl (fun _ => 0))), (g23, .inl (cy.1, 49, .inl (fun _ => 0))), (g31, .inl (cy.1, 7, .inl (fun _ => 0))), (g39, .inl (cy.1, 7, .inl (fun _ => 0)))] H := hP1
  replace hD : va_D A [(h0, .inr (1, [.int 0, .int 0, .ref g7, .ref g15, .ref g23, .ref g31, .null, .null, .null, .null, .null, .null, .null])), (g7, .inl (cy.1, 7, .inl (fun _ => 0))), (g15, .inl (cy.1, 7, .inl (fun _ => 0))), (g23, .inl (cy.1, 49, .inl (fun _ => 0))), (g31, .inl (cy.1, 7, .inl (fun _ => 0))), (g39, .inl (cy.1, 7, .inl (fun _ => 0)))] := hD1
  clear hP1 hD1
  refine W.widen (k := 5) (n := 77) (by omega) (by omega) ?_
  refine va_putF (D := D) (ci := 1) (v := .ref g39) (ty := .array .int) (C := RX1) (T := TX1) (N := 13) hx hb hts inUX1 tyX1 tyX1_ok nmX1 hown hK hP hD hS 0 rfl rfl 6 (by decide) (hts _ wd_62) (fun _ h9 => h9) rfl hin rfl (by decide +kernel) rfl rfl (Nat.le_of_ble_eq_true rfl) dX1_init_41 (fun H locs hP1 hD1 hS1 => ?_)
  replace hS := hS1
  clear hS1
  replace hP : va_P D vwCl [(h0, .inr (1, [.int 0, .int 0, .ref g7, .ref g15, .ref g23, .ref g31, .ref g39, .null, .null, .null, .null, .null, .null])), (g7, .inl (cy.1, 7, .inl (fun _ => 0))), (g15, .inl (cy.1, 7, .inl (fun _ => 0))), (g23, .inl (cy.1, 49, .inl (fun _ => 0))), (g31, .inl (cy.1, 7, .inl (fun _ => 0))), (g39, .inl (cy.1, 7, .inl (fun _ => 0)))] H := hP1
  replace hD : va_D A [(h0, .inr (1, [.int 0, .int 0, .ref g7, .ref g15, .ref g23, .ref g31, .ref g39, .null, .null, .null, .null, .null, .null])), (g7, .inl (cy.1, 7, .inl (fun _ => 0))), (g15, .inl (cy.1, 7, .inl (fun _ => 0))), (g23, .inl (cy.1, 49, .inl (fun _ => 0))), (g31, .inl (cy.1, 7, .inl (fun _ => 0))), (g39, .inl (cy.1, 7, .inl (fun _ => 0)))] := hD1
  clear hP1 hD1
  refine lv_aload_n hx hb dX1_init_44 rfl (lv_at hl 0 rfl) ?_
  refine lv_bipush (v := 7) hx hb dX1_init_45 (by decide) ?_
  refine r_newi (N' := 7) hC hP hD hS hA (hts _ wd_621) (by decide) (by decide) (Nat.le_of_ble_eq_true rfl) (Nat.le_of_ble_eq_true rfl) (Nat.le_of_ble_eq_true rfl) dX1_init_47 (fun g47 H hP1 hD1 hS1 => ?_)
  replace hS := hS1
  clear hS1
  replace hP : va_P D vwCl [(h0, .inr (1, [.int 0, .int 0, .ref g7, .ref g15, .ref g23, .ref g31, .ref g39, .null, .null, .null, .null, .null, .null])), (g7, .inl (cy.1, 7, .inl (fun _ => 0))), (g15, .inl (cy.1, 7, .inl (fun _ => 0))), (g23, .inl (cy.1, 49, .inl (fun _ => 0))), (g31, .inl (cy.1, 7, .inl (fun _ => 0))), (g39, .inl (cy.1, 7, .inl (fun _ => 0))), (g47, .inl (cy.1, 7, .inl (fun _ => 0)))] H := hP1
  replace hD : va_D A [(h0, .inr (1, [.int 0, .int 0, .ref g7, .ref g15, .ref g23, .ref g31, .ref g39, .null, .null, .null, .null, .null, .null])), (g7, .inl (cy.1, 7, .inl (fun _ => 0))), (g15, .inl (cy.1, 7, .inl (fun _ => 0))), (g23, .inl (cy.1, 49, .inl (fun _ => 0))), (g31, .inl (cy.1, 7, .inl (fun _ => 0))), (g39, .inl (cy.1, 7, .inl (fun _ => 0))), (g47, .inl (cy.1, 7, .inl (fun _ => 0)))] := hD1
  clear hP1 hD1
  refine W.widen (k := 6) (n := 84) (by omega) (by omega) ?_
  refine va_putF (D := D) (ci := 1) (v := .ref g47) (ty := .array .int) (C := RX1) (T := TX1) (N := 13) hx hb hts inUX1 tyX1 tyX1_ok nmX1 hown hK hP hD hS 0 rfl rfl 7 (by decide) (hts _ wd_63) (fun _ h9 => h9) rfl hin rfl (by decide +kernel) rfl rfl (Nat.le_of_ble_eq_true rfl) dX1_init_49 (fun H locs hP1 hD1 hS1 => ?_)
  replace hS := hS1
  clear hS1
  replace hP : va_P D vwCl [(h0, .inr (1, [.int 0, .int 0, .ref g7, .ref g15, .ref g23, .ref g31, .ref g39, .ref g47, .null, .null, .null, .null, .null])), (g7, .inl (cy.1, 7, .inl (fun _ => 0))), (g15, .inl (cy.1, 7, .inl (fun _ => 0))), (g23, .inl (cy.1, 49, .inl (fun _ => 0))), (g31, .inl (cy.1, 7, .inl (fun _ => 0))), (g39, .inl (cy.1, 7, .inl (fun _ => 0))), (g47, .inl (cy.1, 7, .inl (fun _ => 0)))] H := hP1
  replace hD : va_D A [(h0, .inr (1, [.int 0, .int 0, .ref g7, .ref g15, .ref g23, .ref g31, .ref g39, .ref g47, .null, .null, .null, .null, .null])), (g7, .inl (cy.1, 7, .inl (fun _ => 0))), (g15, .inl (cy.1, 7, .inl (fun _ => 0))), (g23, .inl (cy.1, 49, .inl (fun _ => 0))), (g31, .inl (cy.1, 7, .inl (fun _ => 0))), (g39, .inl (cy.1, 7, .inl (fun _ => 0))), (g47, .inl (cy.1, 7, .inl (fun _ => 0)))] := hD1
  clear hP1 hD1
  refine lv_aload_n hx hb dX1_init_52 rfl (lv_at hl 0 rfl) ?_
  refine lv_bipush (v := 7) hx hb dX1_init_53 (by decide) ?_
  refine r_newi (N' := 7) hC hP hD hS hA (hts _ wd_621) (by decide) (by decide) (Nat.le_of_ble_eq_true rfl) (Nat.le_of_ble_eq_true rfl) (Nat.le_of_ble_eq_true rfl) dX1_init_55 (fun g55 H hP1 hD1 hS1 => ?_)
  replace hS := hS1
  clear hS1
  replace hP : va_P D vwCl [(h0, .inr (1, [.int 0, .int 0, .ref g7, .ref g15, .ref g23, .ref g31, .ref g39, .ref g47, .null, .null, .null, .null, .null])), (g7, .inl (cy.1, 7, .inl (fun _ => 0))), (g15, .inl (cy.1, 7, .inl (fun _ => 0))), (g23, .inl (cy.1, 49, .inl (fun _ => 0))), (g31, .inl (cy.1, 7, .inl (fun _ => 0))), (g39, .inl (cy.1, 7, .inl (fun _ => 0))), (g47, .inl (cy.1, 7, .inl (fun _ => 0))), (g55, .inl (cy.1, 7, .inl (fun _ => 0)))] H := hP1
  replace hD : va_D A [(h0, .inr (1, [.int 0, .int 0, .ref g7, .ref g15, .ref g23, .ref g31, .ref g39, .ref g47, .null, .null, .null, .null, .null])), (g7, .inl (cy.1, 7, .inl (fun _ => 0))), (g15, .inl (cy.1, 7, .inl (fun _ => 0))), (g23, .inl (cy.1, 49, .inl (fun _ => 0))), (g31, .inl (cy.1, 7, .inl (fun _ => 0))), (g39, .inl (cy.1, 7, .inl (fun _ => 0))), (g47, .inl (cy.1, 7, .inl (fun _ => 0))), (g55, .inl (cy.1, 7, .inl (fun _ => 0)))] := hD1
  clear hP1 hD1
  refine W.widen (k := 7) (n := 91) (by omega) (by omega) ?_
  refine va_putF (D := D) (ci := 1) (v := .ref g55) (ty := .array .int) (C := RX1) (T := TX1) (N := 13) hx hb hts inUX1 tyX1 tyX1_ok nmX1 hown hK hP hD hS 0 rfl rfl 8 (by decide) (hts _ wd_64) (fun _ h9 => h9) rfl hin rfl (by decide +kernel) rfl rfl (Nat.le_of_ble_eq_true rfl) dX1_init_57 (fun H locs hP1 hD1 hS1 => ?_)
  replace hS := hS1
  clear hS1
  replace hP : va_P D vwCl [(h0, .inr (1, [.int 0, .int 0, .ref g7, .ref g15, .ref g23, .ref g31, .ref g39, .ref g47, .ref g55, .null, .null, .null, .null])), (g7, .inl (cy.1, 7, .inl (fun _ => 0))), (g15, .inl (cy.1, 7, .inl (fun _ => 0))), (g23, .inl (cy.1, 49, .inl (fun _ => 0))), (g31, .inl (cy.1, 7, .inl (fun _ => 0))), (g39, .inl (cy.1, 7, .inl (fun _ => 0))), (g47, .inl (cy.1, 7, .inl (fun _ => 0))), (g55, .inl (cy.1, 7, .inl (fun _ => 0)))] H := hP1
  replace hD : va_D A [(h0, .inr (1, [.int 0, .int 0, .ref g7, .ref g15, .ref g23, .ref g31, .ref g39, .ref g47, .ref g55, .null, .null, .null, .null])), (g7, .inl (cy.1, 7, .inl (fun _ => 0))), (g15, .inl (cy.1, 7, .inl (fun _ => 0))), (g23, .inl (cy.1, 49, .inl (fun _ => 0))), (g31, .inl (cy.1, 7, .inl (fun _ => 0))), (g39, .inl (cy.1, 7, .inl (fun _ => 0))), (g47, .inl (cy.1, 7, .inl (fun _ => 0))), (g55, .inl (cy.1, 7, .inl (fun _ => 0)))] := hD1
  clear hP1 hD1
  refine lv_aload_n hx hb dX1_init_60 rfl (lv_at hl 0 rfl) ?_
  refine lv_bipush (v := 7) hx hb dX1_init_61 (by decide) ?_
  refine r_newi (N' := 7) hC hP hD hS hA (hts _ wd_621) (by decide) (by decide) (Nat.le_of_ble_eq_true rfl) (Nat.le_of_ble_eq_true rfl) (Nat.le_of_ble_eq_true rfl) dX1_init_63 (fun g63 H hP1 hD1 hS1 => ?_)
  replace hS := hS1
  clear hS1
  replace hP : va_P D vwCl [(h0, .inr (1, [.int 0, .int 0, .ref g7, .ref g15, .ref g23, .ref g31, .ref g39, .ref g47, .ref g55, .null, .null, .null, .null])), (g7, .inl (cy.1, 7, .inl (fun _ => 0))), (g15, .inl (cy.1, 7, .inl (fun _ => 0))), (g23, .inl (cy.1, 49, .inl (fun _ => 0))), (g31, .inl (cy.1, 7, .inl (fun _ => 0))), (g39, .inl (cy.1, 7, .inl (fun _ => 0))), (g47, .inl (cy.1, 7, .inl (fun _ => 0))), (g55, .inl (cy.1, 7, .inl (fun _ => 0))), (g63, .inl (cy.1, 7, .inl (fun _ => 0)))] H := hP1
  replace hD : va_D A [(h0, .inr (1, [.int 0, .int 0, .ref g7, .ref g15, .ref g23, .ref g31, .ref g39, .ref g47, .ref g55, .null, .null, .null, .null])), (g7, .inl (cy.1, 7, .inl (fun _ => 0))), (g15, .inl (cy.1, 7, .inl (fun _ => 0))), (g23, .inl (cy.1, 49, .inl (fun _ => 0))), (g31, .inl (cy.1, 7, .inl (fun _ => 0))), (g39, .inl (cy.1, 7, .inl (fun _ => 0))), (g47, .inl (cy.1, 7, .inl (fun _ => 0))), (g55, .inl (cy.1, 7, .inl (fun _ => 0))), (g63, .inl (cy.1, 7, .inl (fun _ => 0)))] := hD1
  clear hP1 hD1
  refine W.widen (k := 8) (n := 98) (by omega) (by omega) ?_
  refine va_putF (D := D) (ci := 1) (v := .ref g63) (ty := .array .int) (C := RX1) (T := TX1) (N := 13) hx hb hts inUX1 tyX1 tyX1_ok nmX1 hown hK hP hD hS 0 rfl rfl 9 (by decide) (hts _ wd_65) (fun _ h9 => h9) rfl hin rfl (by decide +kernel) rfl rfl (Nat.le_of_ble_eq_true rfl) dX1_init_65 (fun H locs hP1 hD1 hS1 => ?_)
  replace hS := hS1
  clear hS1
  replace hP : va_P D vwCl [(h0, .inr (1, [.int 0, .int 0, .ref g7, .ref g15, .ref g23, .ref g31, .ref g39, .ref g47, .ref g55, .ref g63, .null, .null, .null])), (g7, .inl (cy.1, 7, .inl (fun _ => 0))), (g15, .inl (cy.1, 7, .inl (fun _ => 0))), (g23, .inl (cy.1, 49, .inl (fun _ => 0))), (g31, .inl (cy.1, 7, .inl (fun _ => 0))), (g39, .inl (cy.1, 7, .inl (fun _ => 0))), (g47, .inl (cy.1, 7, .inl (fun _ => 0))), (g55, .inl (cy.1, 7, .inl (fun _ => 0))), (g63, .inl (cy.1, 7, .inl (fun _ => 0)))] H := hP1
  replace hD : va_D A [(h0, .inr (1, [.int 0, .int 0, .ref g7, .ref g15, .ref g23, .ref g31, .ref g39, .ref g47, .ref g55, .ref g63, .null, .null, .null])), (g7, .inl (cy.1, 7, .inl (fun _ => 0))), (g15, .inl (cy.1, 7, .inl (fun _ => 0))), (g23, .inl (cy.1, 49, .inl (fun _ => 0))), (g31, .inl (cy.1, 7, .inl (fun _ => 0))), (g39, .inl (cy.1, 7, .inl (fun _ => 0))), (g47, .inl (cy.1, 7, .inl (fun _ => 0))), (g55, .inl (cy.1, 7, .inl (fun _ => 0))), (g63, .inl (cy.1, 7, .inl (fun _ => 0)))] := hD1
  clear hP1 hD1
  refine lv_aload_n hx hb dX1_init_68 rfl (lv_at hl 0 rfl) ?_
  refine lv_bipush (v := 7) hx hb dX1_init_69 (by decide) ?_
  refine r_newi (N' := 7) hC hP hD hS hA (hts _ wd_621) (by decide) (by decide) (Nat.le_of_ble_eq_true rfl) (Nat.le_of_ble_eq_true rfl) (Nat.le_of_ble_eq_true rfl) dX1_init_71 (fun g71 H hP1 hD1 hS1 => ?_)
  replace hS := hS1
  clear hS1
  replace hP : va_P D vwCl [(h0, .inr (1, [.int 0, .int 0, .ref g7, .ref g15, .ref g23, .ref g31, .ref g39, .ref g47, .ref g55, .ref g63, .null, .null, .null])), (g7, .inl (cy.1, 7, .inl (fun _ => 0))), (g15, .inl (cy.1, 7, .inl (fun _ => 0))), (g23, .inl (cy.1, 49, .inl (fun _ => 0))), (g31, .inl (cy.1, 7, .inl (fun _ => 0))), (g39, .inl (cy.1, 7, .inl (fun _ => 0))), (g47, .inl (cy.1, 7, .inl (fun _ => 0))), (g55, .inl (cy.1, 7, .inl (fun _ => 0))), (g63, .inl (cy.1, 7, .inl (fun _ => 0))), (g71, .inl (cy.1, 7, .inl (fun _ => 0)))] H := hP1
  replace hD : va_D A [(h0, .inr (1, [.int 0, .int 0, .ref g7, .ref g15, .ref g23, .ref g31, .ref g39, .ref g47, .ref g55, .ref g63, .null, .null, .null])), (g7, .inl (cy.1, 7, .inl (fun _ => 0))), (g15, .inl (cy.1, 7, .inl (fun _ => 0))), (g23, .inl (cy.1, 49, .inl (fun _ => 0))), (g31, .inl (cy.1, 7, .inl (fun _ => 0))), (g39, .inl (cy.1, 7, .inl (fun _ => 0))), (g47, .inl (cy.1, 7, .inl (fun _ => 0))), (g55, .inl (cy.1, 7, .inl (fun _ => 0))), (g63, .inl (cy.1, 7, .inl (fun _ => 0))), (g71, .inl (cy.1, 7, .inl (fun _ => 0)))] := hD1
  clear hP1 hD1
  refine W.widen (k := 9) (n := 105) (by omega) (by omega) ?_
  refine va_putF (D := D) (ci := 1) (v := .ref g71) (ty := .array .int) (C := RX1) (T := TX1) (N := 13) hx hb hts inUX1 tyX1 tyX1_ok nmX1 hown hK hP hD hS 0 rfl rfl 10 (by decide) (hts _ wd_66) (fun _ h9 => h9) rfl hin rfl (by decide +kernel) rfl rfl (Nat.le_of_ble_eq_true rfl) dX1_init_73 (fun H locs hP1 hD1 hS1 => ?_)
  replace hS := hS1
  clear hS1
  replace hP : va_P D vwCl [(h0, .inr (1, [.int 0, .int 0, .ref g7, .ref g15, .ref g23, .ref g31, .ref g39, .ref g47, .ref g55, .ref g63, .ref g71, .null, .null])), (g7, .inl (cy.1, 7, .inl (fun _ => 0))), (g15, .inl (cy.1, 7, .inl (fun _ => 0))), (g23, .inl (cy.1, 49, .inl (fun _ => 0))), (g31, .inl (cy.1, 7, .inl (fun _ => 0))), (g39, .inl (cy.1, 7, .inl (fun _ => 0))), (g47, .inl (cy.1, 7, .inl (fun _ => 0))), (g55, .inl (cy.1, 7, .inl (fun _ => 0))), (g63, .inl (cy.1, 7, .inl (fun _ => 0))), (g71, .inl (cy.1, 7, .inl (fun _ => 0)))] H := hP1
  replace hD : va_D A [(h0, .inr (1, [.int 0, .int 0, .ref g7, .ref g15, .ref g23, .ref g31, .ref g39, .ref g47, .ref g55, .ref g63, .ref g71, .null, .null])), (g7, .inl (cy.1, 7, .inl (fun _ => 0))), (g15, .inl (cy.1, 7, .inl (fun _ => 0))), (g23, .inl (cy.1, 49, .inl (fun _ => 0))), (g31, .inl (cy.1, 7, .inl (fun _ => 0))), (g39, .inl (cy.1, 7, .inl (fun _ => 0))), (g47, .inl (cy.1, 7, .inl (fun _ => 0))), (g55, .inl (cy.1, 7, .inl (fun _ => 0))), (g63, .inl (cy.1, 7, .inl (fun _ => 0))), (g71, .inl (cy.1, 7, .inl (fun _ => 0)))] := hD1
  clear hP1 hD1
  refine lv_aload_n hx hb dX1_init_76 rfl (lv_at hl 0 rfl) ?_
  refine lv_bipush (v := 7) hx hb dX1_init_77 (by decide) ?_
  refine r_newi (N' := 7) hC hP hD hS hA (hts _ wd_621) (by decide) (by decide) (Nat.le_of_ble_eq_true rfl) (Nat.le_of_ble_eq_true rfl) (Nat.le_of_ble_eq_true rfl) dX1_init_79 (fun g79 H hP1 hD1 hS1 => ?_)
  replace hS := hS1
  clear hS1
  replace hP : va_P D vwCl [(h0, .inr (1, [.int 0, .int 0, .ref g7, .ref g15, .ref g23, .ref g31, .ref g39, .ref g47, .ref g55, .ref g63, .ref g71, .null, .null])), (g7, .inl (cy.1, 7, .inl (fun _ => 0))), (g15, .inl (cy.1, 7, .inl (fun _ => 0))), (g23, .inl (cy.1, 49, .inl (fun _ => 0))), (g31, .inl (cy.1, 7, .inl (fun _ => 0))), (g39, .inl (cy.1, 7, .inl (fun _ => 0))), (g47, .inl (cy.1, 7, .inl (fun _ => 0))), (g55, .inl (cy.1, 7, .inl (fun _ => 0))), (g63, .inl (cy.1, 7, .inl (fun _ => 0))), (g71, .inl (cy.1, 7, .inl (fun _ => 0))), (g79, .inl (cy.1, 7, .inl (fun _ => 0)))] H := hP1
  replace hD : va_D A [(h0, .inr (1, [.int 0, .int 0, .ref g7, .ref g15, .ref g23, .ref g31, .ref g39, .ref g47, .ref g55, .ref g63, .ref g71, .null, .null])), (g7, .inl (cy.1, 7, .inl (fun _ => 0))), (g15, .inl (cy.1, 7, .inl (fun _ => 0))), (g23, .inl (cy.1, 49, .inl (fun _ => 0))), (g31, .inl (cy.1, 7, .inl (fun _ => 0))), (g39, .inl (cy.1, 7, .inl (fun _ => 0))), (g47, .inl (cy.1, 7, .inl (fun _ => 0))), (g55, .inl (cy.1, 7, .inl (fun _ => 0))), (g63, .inl (cy.1, 7, .inl (fun _ => 0))), (g71, .inl (cy.1, 7, .inl (fun _ => 0))), (g79, .inl (cy.1, 7, .inl (fun _ => 0)))] := hD1
  clear hP1 hD1
  refine W.widen (k := 10) (n := 112) (by omega) (by omega) ?_
  refine va_putF (D := D) (ci := 1) (v := .ref g79) (ty := .array .int) (C := RX1) (T := TX1) (N := 13) hx hb hts inUX1 tyX1 tyX1_ok nmX1 hown hK hP hD hS 0 rfl rfl 11 (by decide) (hts _ wd_67) (fun _ h9 => h9) rfl hin rfl (by decide +kernel) rfl rfl (Nat.le_of_ble_eq_true rfl) dX1_init_81 (fun H locs hP1 hD1 hS1 => ?_)
  replace hS := hS1
  clear hS1
  replace hP : va_P D vwCl [(h0, .inr (1, [.int 0, .int 0, .ref g7, .ref g15, .ref g23, .ref g31, .ref g39, .ref g47, .ref g55, .ref g63, .ref g71, .ref g79, .null])), (g7, .inl (cy.1, 7, .inl (fun _ => 0))), (g15, .inl (cy.1, 7, .inl (fun _ => 0))), (g23, .inl (cy.1, 49, .inl (fun _ => 0))), (g31, .inl (cy.1, 7, .inl (fun _ => 0))), (g39, .inl (cy.1, 7, .inl (fun _ => 0))), (g47, .inl (cy.1, 7, .inl (fun _ => 0))), (g55, .inl (cy.1, 7, .inl (fun _ => 0))), (g63, .inl (cy.1, 7, .inl (fun _ => 0))), (g71, .inl (cy.1, 7, .inl (fun _ => 0))), (g79, .inl (cy.1, 7, .inl (fun _ => 0)))] H := hP1
  replace hD : va_D A [(h0, .inr (1, [.int 0, .int 0, .ref g7, .ref g15, .ref g23, .ref g31, .ref g39, .ref g47, .ref g55, .ref g63, .ref g71, .ref g79, .null])), (g7, .inl (cy.1, 7, .inl (fun _ => 0))), (g15, .inl (cy.1, 7, .inl (fun _ => 0))), (g23, .inl (cy.1, 49, .inl (fun _ => 0))), (g31, .inl (cy.1, 7, .inl (fun _ => 0))), (g39, .inl (cy.1, 7, .inl (fun _ => 0))), (g47, .inl (cy.1, 7, .inl (fun _ => 0))), (g55, .inl (cy.1, 7, .inl (fun _ => 0))), (g63, .inl (cy.1, 7, .inl (fun _ => 0))), (g71, .inl (cy.1, 7, .inl (fun _ => 0))), (g79, .inl (cy.1, 7, .inl (fun _ => 0)))] := hD1
  clear hP1 hD1
  refine lv_aload_n hx hb dX1_init_84 rfl (lv_at hl 0 rfl) ?_
  refine va_new (ci := 0) (fs := [.int 0, .int 0, .null, .null]) (C := RX0) (T := TX0) (N := 4) hx hb hts inUX0 tyX0 tyX0_ok hown (hts _ wd_586) (hts _ wd_580) (hts _ wd_12) hK hP hD hS hA rfl (fun j hj => by revert j; decide +kernel) (Nat.le_of_ble_eq_true rfl) (Nat.le_of_ble_eq_true rfl) dX1_init_85 (fun g85 H hP1 hD1 hS1 => ?_)
  replace hS := hS1
  clear hS1
  replace hP : va_P D vwCl [(h0, .inr (1, [.int 0, .int 0, .ref g7, .ref g15, .ref g23, .ref g31, .ref g39, .ref g47, .ref g55, .ref g63, .ref g71, .ref g79, .null])), (g7, .inl (cy.1, 7, .inl (fun _ => 0))), (g15, .inl (cy.1, 7, .inl (fun _ => 0))), (g23, .inl (cy.1, 49, .inl (fun _ => 0))), (g31, .inl (cy.1, 7, .inl (fun _ => 0))), (g39, .inl (cy.1, 7, .inl (fun _ => 0))), (g47, .inl (cy.1, 7, .inl (fun _ => 0))), (g55, .inl (cy.1, 7, .inl (fun _ => 0))), (g63, .inl (cy.1, 7, .inl (fun _ => 0))), (g71, .inl (cy.1, 7, .inl (fun _ => 0))), (g79, .inl (cy.1, 7, .inl (fun _ => 0))), (g85, .inr (0, [.int 0, .int 0, .null, .null]))] H := hP1
  replace hD : va_D A [(h0, .inr (1, [.int 0, .int 0, .ref g7, .ref g15, .ref g23, .ref g31, .ref g39, .ref g47, .ref g55, .ref g63, .ref g71, .ref g79, .null])), (g7, .inl (cy.1, 7, .inl (fun _ => 0))), (g15, .inl (cy.1, 7, .inl (fun _ => 0))), (g23, .inl (cy.1, 49, .inl (fun _ => 0))), (g31, .inl (cy.1, 7, .inl (fun _ => 0))), (g39, .inl (cy.1, 7, .inl (fun _ => 0))), (g47, .inl (cy.1, 7, .inl (fun _ => 0))), (g55, .inl (cy.1, 7, .inl (fun _ => 0))), (g63, .inl (cy.1, 7, .inl (fun _ => 0))), (g71, .inl (cy.1, 7, .inl (fun _ => 0))), (g79, .inl (cy.1, 7, .inl (fun _ => 0))), (g85, .inr (0, [.int 0, .int 0, .null, .null]))] := hD1
  clear hP1 hD1
  refine W.widen (k := 11) (n := 116) (by omega) (by omega) ?_
  refine lv_dup hx hb dX1_init_88 rfl ?_
  have hPc := last_P (wr := [(h0, .inr (1, [.int 0, .int 0, .ref g7, .ref g15, .ref g23, .ref g31, .ref g39, .ref g47, .ref g55, .ref g63, .ref g71, .ref g79, .null])), (g7, .inl (cy.1, 7, .inl (fun _ => 0))), (g15, .inl (cy.1, 7, .inl (fun _ => 0))), (g23, .inl (cy.1, 49, .inl (fun _ => 0))), (g31, .inl (cy.1, 7, .inl (fun _ => 0))), (g39, .inl (cy.1, 7, .inl (fun _ => 0))), (g47, .inl (cy.1, 7, .inl (fun _ => 0))), (g55, .inl (cy.1, 7, .inl (fun _ => 0))), (g63, .inl (cy.1, 7, .inl (fun _ => 0))), (g71, .inl (cy.1, 7, .inl (fun _ => 0))), (g79, .inl (cy.1, 7, .inl (fun _ => 0)))]) (x := (g85, .inr (0, [.int 0, .int 0, .null, .null]))) hP
  have hDc := last_D (wr := [(h0, .inr (1, [.int 0, .int 0, .ref g7, .ref g15, .ref g23, .ref g31, .ref g39, .ref g47, .ref g55, .ref g63, .ref g71, .ref g79, .null])), (g7, .inl (cy.1, 7, .inl (fun _ => 0))), (g15, .inl (cy.1, 7, .inl (fun _ => 0))), (g23, .inl (cy.1, 49, .inl (fun _ => 0))), (g31, .inl (cy.1, 7, .inl (fun _ => 0))), (g39, .inl (cy.1, 7, .inl (fun _ => 0))), (g47, .inl (cy.1, 7, .inl (fun _ => 0))), (g55, .inl (cy.1, 7, .inl (fun _ => 0))), (g63, .inl (cy.1, 7, .inl (fun _ => 0))), (g71, .inl (cy.1, 7, .inl (fun _ => 0))), (g79, .inl (cy.1, 7, .inl (fun _ => 0)))]) (x := (g85, .inr (0, [.int 0, .int 0, .null, .null]))) hD
  have hFc := last_F (wr := [(h0, .inr (1, [.int 0, .int 0, .ref g7, .ref g15, .ref g23, .ref g31, .ref g39, .ref g47, .ref g55, .ref g63, .ref g71, .ref g79, .null])), (g7, .inl (cy.1, 7, .inl (fun _ => 0))), (g15, .inl (cy.1, 7, .inl (fun _ => 0))), (g23, .inl (cy.1, 49, .inl (fun _ => 0))), (g31, .inl (cy.1, 7, .inl (fun _ => 0))), (g39, .inl (cy.1, 7, .inl (fun _ => 0))), (g47, .inl (cy.1, 7, .inl (fun _ => 0))), (g55, .inl (cy.1, 7, .inl (fun _ => 0))), (g63, .inl (cy.1, 7, .inl (fun _ => 0))), (g71, .inl (cy.1, 7, .inl (fun _ => 0))), (g79, .inl (cy.1, 7, .inl (fun _ => 0)))]) (x := (g85, .inr (0, [.int 0, .int 0, .null, .null]))) hD hS hA
  refine va_callv (va_runIN (As := []) (rest := [.ref g85, .ref h0]) ⟨hx, hb, hml, hown, hts⟩ (c_X0_init l D cy (va_A [(g85, .inr (0, [.int 0, .int 0, .null, .null]))] H.size) g85) ⟨va_cnB 0 hts (gdN wd_578) rfl rfl rfl (NL.at hN nw_RX1_44 rfl) (hts _ wd_12) (by decide +kernel) ⟨Nat.le_of_ble_eq_true rfl, Nat.le_of_ble_eq_true rfl⟩, rfl, hts _ wd_579⟩ ⟨fun a U g mk q => by obtain ⟨q0, qP, qK, qD, qA, qN⟩ := q; exact ⟨q0, qP, va_K.moved (u := U) (U := U.calling g mk a) (Vm.Alike.refl U.vm) qK, qD, qA, NL.same (u := U) (U := U.calling g mk a) rfl qN⟩, fun U hU hV => ⟨rfl, by rw [hU]; exact hPc, va_K.moved hV.alike hK, hDc.self, fun q hq => Or.inr (by rw [hU] at hq; exact hq), hN.warm hV⟩⟩ rfl rfl hl.1 rfl (lv_room (Nat.le_of_ble_eq_true rfl)) dX1_init_89 ⟨Nat.le_of_ble_eq_true rfl, Nat.le_of_ble_eq_true rfl⟩) hS (fun q _ h => hFc q h) hFc (fun u t H1 locs ht hvm hw hB hz1 hk1 hS1 => ?_)
  obtain ⟨w89_1, w89_2, hP1, hD1⟩ := hB
  rw [ht] at hP1
  have hJ := join_last (wr := [(h0, .inr (1, [.int 0, .int 0, .ref g7, .ref g15, .ref g23, .ref g31, .ref g39, .ref g47, .ref g55, .ref g63, .ref g71, .ref g79, .null])), (g7, .inl (cy.1, 7, .inl (fun _ => 0))), (g15, .inl (cy.1, 7, .inl (fun _ => 0))), (g23, .inl (cy.1, 49, .inl (fun _ => 0))), (g31, .inl (cy.1, 7, .inl (fun _ => 0))), (g39, .inl (cy.1, 7, .inl (fun _ => 0))), (g47, .inl (cy.1, 7, .inl (fun _ => 0))), (g55, .inl (cy.1, 7, .inl (fun _ => 0))), (g63, .inl (cy.1, 7, .inl (fun _ => 0))), (g71, .inl (cy.1, 7, .inl (fun _ => 0))), (g79, .inl (cy.1, 7, .inl (fun _ => 0)))]) (w1 := [(g85, .inr (0, [.int 0, .int 0, .ref w89_1, .ref w89_2])), (w89_1, .inl (cy.1, 7, .inl (fun _ => 0))), (w89_2, .inl (cy.1, 35, .inl (fun _ => 0)))]) (x := (g85, .inr (0, [.int 0, .int 0, .null, .null]))) hP hD hk1 hFc hP1 hD1
  clear hP hD hPc hDc hFc hP1 hD1 hk1
  generalize H1 = H at hJ hS1 ⊢
  have hP : va_P D vwCl [(h0, .inr (1, [.int 0, .int 0, .ref g7, .ref g15, .ref g23, .ref g31, .ref g39, .ref g47, .ref g55, .ref g63, .ref g71, .ref g79, .null])), (g7, .inl (cy.1, 7, .inl (fun _ => 0))), (g15, .inl (cy.1, 7, .inl (fun _ => 0))), (g23, .inl (cy.1, 49, .inl (fun _ => 0))), (g31, .inl (cy.1, 7, .inl (fun _ => 0))), (g39, .inl (cy.1, 7, .inl (fun _ => 0))), (g47, .inl (cy.1, 7, .inl (fun _ => 0))), (g55, .inl (cy.1, 7, .inl (fun _ => 0))), (g63, .inl (cy.1, 7, .inl (fun _ => 0))), (g71, .inl (cy.1, 7, .inl (fun _ => 0))), (g79, .inl (cy.1, 7, .inl (fun _ => 0))), (g85, .inr (0, [.int 0, .int 0, .ref w89_1, .ref w89_2])), (w89_1, .inl (cy.1, 7, .inl (fun _ => 0))), (w89_2, .inl (cy.1, 35, .inl (fun _ => 0)))] H := hJ.1
  have hD : va_D A [(h0, .inr (1, [.int 0, .int 0, .ref g7, .ref g15, .ref g23, .ref g31, .ref g39, .ref g47, .ref g55, .ref g63, .ref g71, .ref g79, .null])), (g7, .inl (cy.1, 7, .inl (fun _ => 0))), (g15, .inl (cy.1, 7, .inl (fun _ => 0))), (g23, .inl (cy.1, 49, .inl (fun _ => 0))), (g31, .inl (cy.1, 7, .inl (fun _ => 0))), (g39, .inl (cy.1, 7, .inl (fun _ => 0))), (g47, .inl (cy.1, 7, .inl (fun _ => 0))), (g55, .inl (cy.1, 7, .inl (fun _ => 0))), (g63, .inl (cy.1, 7, .inl (fun _ => 0))), (g71, .inl (cy.1, 7, .inl (fun _ => 0))), (g79, .inl (cy.1, 7, .inl (fun _ => 0))), (g85, .inr (0, [.int 0, .int 0, .ref w89_1, .ref w89_2])), (w89_1, .inl (cy.1, 7, .inl (fun _ => 0))), (w89_2, .inl (cy.1, 35, .inl (fun _ => 0)))] := hJ.2
  replace hS := hS1
  clear hS1 hJ
  refine W.widen (k := 13) (n := 158) (by omega) (by omega) ?_
  refine va_putF (D := D) (ci := 1) (v := .ref g85) (ty := .object "EggOrder$Coop") (C := RX1) (T := TX1) (N := 13) hx hb hts inUX1 tyX1 tyX1_ok nmX1 hown hK hP hD hS 0 rfl rfl 12 (by decide) (hts _ wd_94) (fun _ h9 => h9) rfl hin rfl (by decide +kernel) rfl rfl (Nat.le_of_ble_eq_true rfl) dX1_init_92 (fun H locs hP1 hD1 hS1 => ?_)
  replace hS := hS1
  clear hS1
  replace hP : va_P D vwCl [(h0, .inr (1, [.int 0, .int 0, .ref g7, .ref g15, .ref g23, .ref g31, .ref g39, .ref g47, .ref g55, .ref g63, .ref g71, .ref g79, .ref g85])), (g7, .inl (cy.1, 7, .inl (fun _ => 0))), (g15, .inl (cy.1, 7, .inl (fun _ => 0))), (g23, .inl (cy.1, 49, .inl (fun _ => 0))), (g31, .inl (cy.1, 7, .inl (fun _ => 0))), (g39, .inl (cy.1, 7, .inl (fun _ => 0))), (g47, .inl (cy.1, 7, .inl (fun _ => 0))), (g55, .inl (cy.1, 7, .inl (fun _ => 0))), (g63, .inl (cy.1, 7, .inl (fun _ => 0))), (g71, .inl (cy.1, 7, .inl (fun _ => 0))), (g79, .inl (cy.1, 7, .inl (fun _ => 0))), (g85, .inr (0, [.int 0, .int 0, .ref w89_1, .ref w89_2])), (w89_1, .inl (cy.1, 7, .inl (fun _ => 0))), (w89_2, .inl (cy.1, 35, .inl (fun _ => 0)))] H := hP1
  replace hD : va_D A [(h0, .inr (1, [.int 0, .int 0, .ref g7, .ref g15, .ref g23, .ref g31, .ref g39, .ref g47, .ref g55, .ref g63, .ref g71, .ref g79, .ref g85])), (g7, .inl (cy.1, 7, .inl (fun _ => 0))), (g15, .inl (cy.1, 7, .inl (fun _ => 0))), (g23, .inl (cy.1, 49, .inl (fun _ => 0))), (g31, .inl (cy.1, 7, .inl (fun _ => 0))), (g39, .inl (cy.1, 7, .inl (fun _ => 0))), (g47, .inl (cy.1, 7, .inl (fun _ => 0))), (g55, .inl (cy.1, 7, .inl (fun _ => 0))), (g63, .inl (cy.1, 7, .inl (fun _ => 0))), (g71, .inl (cy.1, 7, .inl (fun _ => 0))), (g79, .inl (cy.1, 7, .inl (fun _ => 0))), (g85, .inr (0, [.int 0, .int 0, .ref w89_1, .ref w89_2])), (w89_1, .inl (cy.1, 7, .inl (fun _ => 0))), (w89_2, .inl (cy.1, 35, .inl (fun _ => 0)))] := hD1
  clear hP1 hD1
  exact W.vret hx hb hr (fun t ht hV => ⟨⟨(), rfl, trivial, g7, g15, g23, g31, g39, g47, g55, g63, g71, g79, g85, w89_1, w89_2, by rw [ht]; exact hP, hD⟩, hS.F ht⟩) hS.2.2 dX1_init_95 hlocks
