set_option maxHeartbeats 4000000 in
set_option maxRecDepth 100000 in
theorem c_X2_copyFrom (l : Launch) (D : va_G) (cy : ClassId × ClassId) (ad : Nat → Nat) (A : Nat → Prop) (N : Nat) (o : Nat) (ho : isHints o) (o2 : Nat) (ho2 : isHints o2) (σ : Hp) (σ' : Hp) (h : t_X2_copyFrom N o o2 σ = some σ') : Cv l yX2_copyFrom us_X2_copyFrom ({ frames := 1, cells := 0, slots := 0, locals := 22 } : Room) D cy 55 shX ad A [.ref (ad o), .ref (ad o2)] σ σ' := by
  unfold t_X2_copyFrom at h
  refine Met.ofW (cc := cX2_copyFrom) (maxL := 2) (ret := none) (by decide) rfl ?_
  intro p e s m args below meth c s₁ B hml hv
  obtain ⟨rfl, hP, hK, hD, hA, hN⟩ := hv
  have hx := B.exec
  have hb := B.bytes
  have hr := B.returns
  have hlocks := B.notSynchronized
  have hts : ∀ w ∈ wsU, w.before _ s = true := fun w h => atoms_spec (ws := us_X2_copyFrom) B.pre w (List.mem_cons_of_mem _ h)
  have hown : s.vm.findClass RX2 = some m.cls := findClass_of_methodNamed B.named
  have hC : Cx p m c cX2_copyFrom 2 s _ wsU RX2 D cy := ⟨⟨hx, hb, hml, hown, hts⟩, hK, hN⟩
  have hW : Wd D cy 55 shX ad A s.heap σ s.heap [] := ⟨hP, hD, va_S.rf, hA⟩
  have hl := lv_entry ([.ref (ad o), .ref (ad o2)]) (n := 2) (Nat.le_of_ble_eq_true rfl)
  rw [lg_entry_eq]
  generalize (lg_sl ([.ref (ad o), .ref (ad o2)]) ++ List.replicate (2 - (lg_sl ([.ref (ad o), .ref (ad o2)])).length) Slot.unset).toArray = ls at hl ⊢
  have hl : lv_has ls 2 [(0, .ref (ad o)), (1, .ref (ad o2))] := hl
  refine lv_aload_n hx hb dX2_copyFrom_0 rfl (lv_at hl 0 rfl) ?_
  refine lv_aload_n hx hb dX2_copyFrom_1 rfl (lv_at hl 1 rfl) ?_
  refine r_geti hC hW 0 (isHints_b ho2 0 (Nat.zero_le _)) ho2.2.1 rfl rfl (by decide) inUX2 (hts _ wd_119) rfl dX2_copyFrom_2 ?_
  refine r_put hC hW 0 (isHints_b ho 0 (Nat.zero_le _)) ho.2.1 rfl rfl (by decide) inUX2 tyX2 tyX2_ok nmX2 (hts _ wd_119) rfl rfl ⟨rfl, rfl⟩ dX2_copyFrom_5 (fun σ1 eσ1 H locs hWn => ?_)
  replace h := bn eσ1 h
  replace hW := hWn
  clear hWn eσ1
  refine lv_aload_n hx hb dX2_copyFrom_8 rfl (lv_at hl 0 rfl) ?_
  refine lv_aload_n hx hb dX2_copyFrom_9 rfl (lv_at hl 1 rfl) ?_
  refine r_geti hC hW 1 (isHints_b ho2 0 (Nat.zero_le _)) ho2.2.1 rfl rfl (by decide) inUX2 (hts _ wd_123) rfl dX2_copyFrom_10 ?_
  refine r_put hC hW 1 (isHints_b ho 0 (Nat.zero_le _)) ho.2.1 rfl rfl (by decide) inUX2 tyX2 tyX2_ok nmX2 (hts _ wd_123) rfl rfl ⟨rfl, rfl⟩ dX2_copyFrom_13 (fun σ2 eσ2 H locs hWn => ?_)
  replace h := bn eσ2 h
  replace hW := hWn
  clear hWn eσ2
  refine lv_aload_n hx hb dX2_copyFrom_16 rfl (lv_at hl 1 rfl) ?_
  refine r_getr hC hW 2 (isHints_b ho2 0 (Nat.zero_le _)) ho2.2.1 rfl rfl (by decide) inUX2 (hts _ wd_120) rfl dX2_copyFrom_17 ?_
  refine lv_aload_n hx hb dX2_copyFrom_20 rfl (lv_at hl 0 rfl) ?_
  refine r_getr hC hW 2 (isHints_b ho 0 (Nat.zero_le _)) ho.2.1 rfl rfl (by decide) inUX2 (hts _ wd_120) rfl dX2_copyFrom_21 ?_
  replace h := bd h
  obtain ⟨σ3, hc, h⟩ := h
  refine r_callv hW (va_runSN (As := [.ref (ad (o2 + 1)), .ref (ad (o + 1))]) (rest := []) hC.1 (c_X6_copyRow l D cy ad A N (o2 + 1) 12 ⟨isHints_b ho2 1 (Nat.le_of_ble_eq_true rfl), ho2.2.2.1⟩ (o + 1) 12 ⟨isHints_b ho 1 (Nat.le_of_ble_eq_true rfl), ho.2.2.1⟩ _ _ hc) ⟨va_cnB 2 hts (gdN wd_23) rfl rfl rfl (NL.at hC.2.2 nw_RX2_34 rfl) (hts _ wd_5) (by decide +kernel) ⟨Nat.le_of_ble_eq_true rfl, Nat.le_of_ble_eq_true rfl⟩, hts _ wd_24, trivial⟩ (r_preS hC hW) rfl rfl hl.1 rfl (lv_room (Nat.le_of_ble_eq_true rfl)) dX2_copyFrom_24 ⟨Nat.zero_le _, Nat.zero_le _⟩) (fun H locs hWn => ?_)
  replace hW := hWn
  clear hWn hc
  refine lv_aload_n hx hb dX2_copyFrom_27 rfl (lv_at hl 1 rfl) ?_
  refine r_getr hC hW 3 (isHints_b ho2 0 (Nat.zero_le _)) ho2.2.1 rfl rfl (by decide) inUX2 (hts _ wd_121) rfl dX2_copyFrom_28 ?_
  refine lv_aload_n hx hb dX2_copyFrom_31 rfl (lv_at hl 0 rfl) ?_
  refine r_getr hC hW 3 (isHints_b ho 0 (Nat.zero_le _)) ho.2.1 rfl rfl (by decide) inUX2 (hts _ wd_121) rfl dX2_copyFrom_32 ?_
  replace h := bd h
  obtain ⟨σ4, hc, h⟩ := h
  refine r_callv hW (va_runSN (As := [.ref (ad (o2 + 2)), .ref (ad (o + 2))]) (rest := []) hC.1 (c_X6_copyRow l D cy ad A N (o2 + 2) 12 ⟨isHints_b ho2 2 (Nat.le_of_ble_eq_true rfl), ho2.2.2.2.1⟩ (o + 2) 12 ⟨isHints_b ho 2 (Nat.le_of_ble_eq_true rfl), ho.2.2.2.1⟩ _ _ hc) ⟨va_cnB 2 hts (gdN wd_23) rfl rfl rfl (NL.at hC.2.2 nw_RX2_34 rfl) (hts _ wd_5) (by decide +kernel) ⟨Nat.le_of_ble_eq_true rfl, Nat.le_of_ble_eq_true rfl⟩, hts _ wd_24, trivial⟩ (r_preS hC hW) rfl rfl hl.1 rfl (lv_room (Nat.le_of_ble_eq_true rfl)) dX2_copyFrom_35 ⟨Nat.zero_le _, Nat.zero_le _⟩) (fun H locs hWn => ?_)
  replace hW := hWn
  clear hWn hc
  refine lv_aload_n hx hb dX2_copyFrom_38 rfl (lv_at hl 1 rfl) ?_
  refine r_getr hC hW 4 (isHints_b ho2 0 (Nat.zero_le _)) ho2.2.1 rfl rfl (by decide) inUX2 (hts _ wd_122) rfl dX2_copyFrom_39 ?_
  refine lv_aload_n hx hb dX2_copyFrom_42 rfl (lv_at hl 0 rfl) ?_
  refine r_getr hC hW 4 (isHints_b ho 0 (Nat.zero_le _)) ho.2.1 rfl rfl (by decide) inUX2 (hts _ wd_122) rfl dX2_copyFrom_43 ?_
  replace h := bd h
  obtain ⟨σ5, hc, h⟩ := h
  refine r_callv hW (va_runSN (As := [.ref (ad (o2 + 3)), .ref (ad (o + 3))]) (rest := []) hC.1 (c_X6_copyRow l D cy ad A N (o2 + 3) 12 ⟨isHints_b ho2 3 (Nat.le_of_ble_eq_true rfl), ho2.2.2.2.2.1⟩ (o + 3) 12 ⟨isHints_b ho 3 (Nat.le_of_ble_eq_true rfl), ho.2.2.2.2.1⟩ _ _ hc) ⟨va_cnB 2 hts (gdN wd_23) rfl rfl rfl (NL.at hC.2.2 nw_RX2_34 rfl) (hts _ wd_5) (by decide +kernel) ⟨Nat.le_of_ble_eq_true rfl, Nat.le_of_ble_eq_true rfl⟩, hts _ wd_24, trivial⟩ (r_preS hC hW) rfl rfl hl.1 rfl (lv_room (Nat.le_of_ble_eq_true rfl)) dX2_copyFrom_46 ⟨Nat.zero_le _, Nat.zero_le _⟩) (fun H locs hWn => ?_)
  replace hW := hWn
  clear hWn hc
  refine lv_aload_n hx hb dX2_copyFrom_49 rfl (lv_at hl 1 rfl) ?_
  refine r_getr hC hW 5 (isHints_b ho2 0 (Nat.zero_le _)) ho2.2.1 rfl rfl (by decide) inUX2 (hts _ wd_124) rfl dX2_copyFrom_50 ?_
  refine lv_aload_n hx hb dX2_copyFrom_53 rfl (lv_at hl 0 rfl) ?_
  refine r_getr hC hW 5 (isHints_b ho 0 (Nat.zero_le _)) ho.2.1 rfl rfl (by decide) inUX2 (hts _ wd_124) rfl dX2_copyFrom_54 ?_
  replace h := bd h
  obtain ⟨σ6, hc, h⟩ := h
  refine r_callv hW (va_runSN (As := [.ref (ad (o2 + 4)), .ref (ad (o + 4))]) (rest := []) hC.1 (c_X6_copyRow l D cy ad A N (o2 + 4) 7 ⟨isHints_b ho2 4 (Nat.le_of_ble_eq_true rfl), ho2.2.2.2.2.2.1⟩ (o + 4) 7 ⟨isHints_b ho 4 (Nat.le_of_ble_eq_true rfl), ho.2.2.2.2.2.1⟩ _ _ hc) ⟨va_cnB 2 hts (gdN wd_23) rfl rfl rfl (NL.at hC.2.2 nw_RX2_34 rfl) (hts _ wd_5) (by decide +kernel) ⟨Nat.le_of_ble_eq_true rfl, Nat.le_of_ble_eq_true rfl⟩, hts _ wd_24, trivial⟩ (r_preS hC hW) rfl rfl hl.1 rfl (lv_room (Nat.le_of_ble_eq_true rfl)) dX2_copyFrom_57 ⟨Nat.zero_le _, Nat.zero_le _⟩) (fun H locs hWn => ?_)
  replace hW := hWn
  clear hWn hc
  refine lv_aload_n hx hb dX2_copyFrom_60 rfl (lv_at hl 1 rfl) ?_
  refine r_getr hC hW 6 (isHints_b ho2 0 (Nat.zero_le _)) ho2.2.1 rfl rfl (by decide) inUX2 (hts _ wd_125) rfl dX2_copyFrom_61 ?_
  refine lv_aload_n hx hb dX2_copyFrom_64 rfl (lv_at hl 0 rfl) ?_
  refine r_getr hC hW 6 (isHints_b ho 0 (Nat.zero_le _)) ho.2.1 rfl rfl (by decide) inUX2 (hts _ wd_125) rfl dX2_copyFrom_65 ?_
  replace h := bd h
  obtain ⟨σ7, hc, h⟩ := h
  refine r_callv hW (va_runSN (As := [.ref (ad (o2 + 5)), .ref (ad (o + 5))]) (rest := []) hC.1 (c_X6_copyRow l D cy ad A N (o2 + 5) 7 ⟨isHints_b ho2 5 (Nat.le_of_ble_eq_true rfl), ho2.2.2.2.2.2.2⟩ (o + 5) 7 ⟨isHints_b ho 5 (Nat.le_of_ble_eq_true rfl), ho.2.2.2.2.2.2⟩ _ _ hc) ⟨va_cnB 2 hts (gdN wd_23) rfl rfl rfl (NL.at hC.2.2 nw_RX2_34 rfl) (hts _ wd_5) (by decide +kernel) ⟨Nat.le_of_ble_eq_true rfl, Nat.le_of_ble_eq_true rfl⟩, hts _ wd_24, trivial⟩ (r_preS hC hW) rfl rfl hl.1 rfl (lv_room (Nat.le_of_ble_eq_true rfl)) dX2_copyFrom_68 ⟨Nat.zero_le _, Nat.zero_le _⟩) (fun H locs hWn => ?_)
  replace hW := hWn
  clear hWn hc
  exact r_vretW hC hr hlocks h hW dX2_copyFrom_71
set_option maxHeartbeats 4000000 in
set_option maxRecDepth 100000 in
theorem c_X3_add (l : Launch) (D : va_G) (cy : ClassId × ClassId) (ad : Nat → Nat) (A : Nat → Prop) (p0 : Int32) (σ : Hp) (σ' : Hp) (h : t_X3_add p0 σ = some σ') : Cv l yX3_add us_X3_add ({ frames := 1, cells := 0, slots := 0, locals := 22 } : Room) D cy 55 shX ad A [.ref (ad 31), .int p0] σ σ' := by
  unfold t_X3_add at h
  refine Met.ofW (cc := cX3_add) (maxL := 2) (ret := none) (by decide) rfl ?_
  intro p e s m args below meth c s₁ B hml hv
  obtain ⟨rfl, hP, hK, hD, hA, hN⟩ := hv
  have hx := B.exec
  have hb := B.bytes
  have hr := B.returns
  have hlocks := B.notSynchronized
  have hts : ∀ w ∈ wsU, w.before _ s = true := fun w h => atoms_spec (ws := us_X3_add) B.pre w (List.mem_cons_of_mem _ h)
  have hown : s.vm.findClass RX3 = some m.cls := findClass_of_methodNamed B.named
  have hC : Cx p m c cX3_add 2 s _ wsU RX3 D cy := ⟨⟨hx, hb, hml, hown, hts⟩, hK, hN⟩
  have hW : Wd D cy 55 shX ad A s.heap σ s.heap [] := ⟨hP, hD, va_S.rf, hA⟩
  have hl := lv_entry ([.ref (ad 31), .int p0]) (n := 2) (Nat.le_of_ble_eq_true rfl)
  rw [lg_entry_eq]
  generalize (lg_sl ([.ref (ad 31), .int p0]) ++ List.replicate (2 - (lg_sl ([.ref (ad 31), .int p0])).length) Slot.unset).toArray = ls at hl ⊢
  have hl : lv_has ls 2 [(0, .ref (ad 31)), (1, .int p0)] := hl
  refine lv_aload_n hx hb dX3_add_0 rfl (lv_at hl 0 rfl) ?_
  refine r_geti hC hW 0 (Nat.le_of_ble_eq_true rfl) rfl rfl rfl (by decide) inUX3 (hts _ wd_126) rfl dX3_add_1 ?_
  refine lv_bipush (v := 60) hx hb dX3_add_4 (by decide) ?_
  refine lv_icmp_lt (tgt := 10) hx hb dX3_add_6 (by decide) (fun cq => ?_) (fun cq => ?_)
  · replace h := tp cq h
    refine lv_aload_n hx hb dX3_add_10 rfl (lv_at hl 0 rfl) ?_
    refine r_getr hC hW 1 (Nat.le_of_ble_eq_true rfl) rfl rfl rfl (by decide) inUX3 (hts _ wd_99) rfl dX3_add_11 ?_
    refine lv_aload_n hx hb dX3_add_14 rfl (lv_at hl 0 rfl) ?_
    refine r_geti hC hW 0 (Nat.le_of_ble_eq_true rfl) rfl rfl rfl (by decide) inUX3 (hts _ wd_126) rfl dX3_add_15 ?_
    refine lv_iload_n hx hb dX3_add_18 rfl (lv_at hl 1 rfl) ?_
    replace h := bd h
    obtain ⟨σ1, hc, h⟩ := h
    refine r_callv hW (va_runSN (As := [.ref (ad 32), .int (σ 31 0), .int p0]) (rest := []) hC.1 (c_X6_put l D cy ad A 32 60 ⟨Nat.le_of_ble_eq_true rfl, rfl⟩ _ _ _ _ hc) ⟨va_cnB 3 hts (gdN wd_37) rfl rfl rfl (NL.at hC.2.2 nw_RX3_19 rfl) (hts _ wd_5) (by decide +kernel) ⟨Nat.le_of_ble_eq_true rfl, Nat.le_of_ble_eq_true rfl⟩, hts _ wd_38, trivial⟩ (r_preS hC hW) rfl rfl hl.1 rfl (lv_room (Nat.le_of_ble_eq_true rfl)) dX3_add_19 ⟨Nat.zero_le _, Nat.zero_le _⟩) (fun H locs hWn => ?_)
    replace hW := hWn
    clear hWn hc
    refine lv_aload_n hx hb dX3_add_22 rfl (lv_at hl 0 rfl) ?_
    refine lv_dup hx hb dX3_add_23 rfl ?_
    refine r_geti hC hW 0 (Nat.le_of_ble_eq_true rfl) rfl rfl rfl (by decide) inUX3 (hts _ wd_126) rfl dX3_add_24 ?_
    refine lv_iconst (v := 1) hx hb dX3_add_27 (by decide) ?_
    refine lv_iadd hx hb dX3_add_28 ?_
    refine r_put hC hW 0 (Nat.le_of_ble_eq_true rfl) rfl rfl rfl (by decide) inUX3 tyX3 tyX3_ok nmX3 (hts _ wd_126) rfl rfl ⟨rfl, rfl⟩ dX3_add_29 (fun σ2 eσ2 H locs hWn => ?_)
    replace h := bn eσ2 h
    replace hW := hWn
    clear hWn eσ2
    exact r_vretW hC hr hlocks h hW dX3_add_32
  · replace h := tn cq h
    exact r_vretW hC hr hlocks h hW dX3_add_9
set_option maxHeartbeats 4000000 in
set_option maxRecDepth 100000 in
theorem c_X3_eatsOrMendsAt (l : Launch) (D : va_G) (cy : ClassId × ClassId) (ad : Nat → Nat) (A : Nat → Prop) (p0 : Int32) (σ : Hp) (r : Int32) (h : t_X3_eatsOrMendsAt p0 σ = some r) : Ci l yX3_eatsOrMendsAt us_X3_eatsOrMendsAt ({ frames := 2, cells := 0, slots := 0, locals := 42 } : Room) D cy 55 shX ad A [.ref (ad 31), .int p0] σ r σ := by
  unfold t_X3_eatsOrMendsAt at h
  refine Met.ofW (cc := cX3_eatsOrMendsAt) (maxL := 2) (ret := (some .boolean)) (by decide) rfl ?_
  intro p e s m args below meth c s₁ B hml hv
  obtain ⟨rfl, hP, hK, hD, hA, hN⟩ := hv
  have hx := B.exec
  have hb := B.bytes
  have hr := B.returns
  have hlocks := B.notSynchronized
  have hts : ∀ w ∈ wsU, w.before _ s = true := fun w h => atoms_spec (ws := us_X3_eatsOrMendsAt) B.pre w (List.mem_cons_of_mem _ h)
  have hown : s.vm.findClass RX3 = some m.cls := findClass_of_methodNamed B.named
  have hC : Cx p m c cX3_eatsOrMendsAt 2 s _ wsU RX3 D cy := ⟨⟨hx, hb, hml, hown, hts⟩, hK, hN⟩
  have hW : Wd D cy 55 shX ad A s.heap σ s.heap [] := ⟨hP, hD, va_S.rf, hA⟩
  have hl := lv_entry ([.ref (ad 31), .int p0]) (n := 2) (Nat.le_of_ble_eq_true rfl)
  rw [lg_entry_eq]
  generalize (lg_sl ([.ref (ad 31), .int p0]) ++ List.replicate (2 - (lg_sl ([.ref (ad 31), .int p0])).length) Slot.unset).toArray = ls at hl ⊢
  have hl : lv_has ls 2 [(0, .ref (ad 31)), (1, .int p0)] := hl
  have J20 : t_X3_eatsOrMendsAt_20  σ = some r → ∀ (H : Heap) (locs : List Loc), Wd D cy 55 shX ad A s.heap σ H locs → ∀ ls : Array Slot, lv_has ls 2 [] → Gi p l e us_X3_eatsOrMendsAt ({ frames := 2, cells := 0, slots := 0, locals := 42 } : Room) s m [.ref (ad 31), .int p0] below meth c D cy 55 shX ad A r σ H locs (F0 m 20 ls []) := by
    intro  h H locs hW ls hl
    unfold t_X3_eatsOrMendsAt_20 at h
    refine lv_iconst (v := 1) hx hb dX3_eatsOrMendsAt_20 (by decide) ?_
    refine lv_goto (tgt := 25) hx hb dX3_eatsOrMendsAt_21 (by decide) ?_
    exact r_zretP (Or.inr rfl) hC hr hlocks h hW dX3_eatsOrMendsAt_25
  refine lv_aload_n hx hb dX3_eatsOrMendsAt_0 rfl (lv_at hl 0 rfl) ?_
  refine lv_iload_n hx hb dX3_eatsOrMendsAt_1 rfl (lv_at hl 1 rfl) ?_
  replace h := bd h
  obtain ⟨r1, hc, h⟩ := h
  refine r_calli hW (va_runV (As := [.int p0]) (rest := []) hC.1 (c_X3_sign l D cy ad A _ _ _ hc) (cwV 1 hts (gdV wd_127 wd_105 wd_106 wd_104 wd_103) rfl rfl rfl (by decide +kernel) ⟨Nat.le_of_ble_eq_true rfl, Nat.le_of_ble_eq_true rfl⟩) (r_preV hC hW (Nat.le_of_ble_eq_true rfl) rfl rfl) rfl rfl hl.1 rfl (lv_room (Nat.le_of_ble_eq_true rfl)) dX3_eatsOrMendsAt_2 ⟨Nat.zero_le _, Nat.zero_le _⟩) (fun H locs hWn => ?_)
  replace hW := hWn
  clear hWn hc
  refine lv_bipush (v := 33) hx hb dX3_eatsOrMendsAt_5 (by decide) ?_
  refine lv_icmp_eq (tgt := 20) hx hb dX3_eatsOrMendsAt_7 (by decide) (fun cq => ?_) (fun cq => ?_)
  · replace h := tp cq h
    exact J20  h _ _ hW _ (lv_sub hl [] rfl)
  · replace h := tn cq h
    refine lv_aload_n hx hb dX3_eatsOrMendsAt_10 rfl (lv_at hl 0 rfl) ?_
    refine lv_iload_n hx hb dX3_eatsOrMendsAt_11 rfl (lv_at hl 1 rfl) ?_
    replace h := bd h
    obtain ⟨r2, hc, h⟩ := h
    refine r_calli hW (va_runV (As := [.int p0]) (rest := []) hC.1 (c_X3_sign l D cy ad A _ _ _ hc) (cwV 1 hts (gdV wd_127 wd_105 wd_106 wd_104 wd_103) rfl rfl rfl (by decide +kernel) ⟨Nat.le_of_ble_eq_true rfl, Nat.le_of_ble_eq_true rfl⟩) (r_preV hC hW (Nat.le_of_ble_eq_true rfl) rfl rfl) rfl rfl hl.1 rfl (lv_room (Nat.le_of_ble_eq_true rfl)) dX3_eatsOrMendsAt_12 ⟨Nat.zero_le _, Nat.zero_le _⟩) (fun H locs hWn => ?_)
    replace hW := hWn
    clear hWn hc
    refine lv_bipush (v := 43) hx hb dX3_eatsOrMendsAt_15 (by decide) ?_
    refine lv_icmp_ne (tgt := 24) hx hb dX3_eatsOrMendsAt_17 (by decide) (fun cq => ?_) (fun cq => ?_)
    · replace h := tn cq h
      refine lv_iconst (v := 0) hx hb dX3_eatsOrMendsAt_24 (by decide) ?_
      exact r_zretP (Or.inl rfl) hC hr hlocks h hW dX3_eatsOrMendsAt_25
    · replace h := tp cq h
      exact J20  h _ _ hW _ (lv_sub hl [] rfl)
set_option maxHeartbeats 4000000 in
set_option maxRecDepth 100000 in
theorem c_X3_eatsOrMends (l : Launch) (D : va_G) (cy : ClassId × ClassId) (ad : Nat → Nat) (A : Nat → Prop) (N : Nat) (σ : Hp) (r : Int32) (h : t_X3_eatsOrMends N σ = some r) : Ci l yX3_eatsOrMends us_X3_eatsOrMends ({ frames := 3, cells := 0, slots := 0, locals := 63 } : Room) D cy 55 shX ad A [.ref (ad 31)] σ r σ := by
  unfold t_X3_eatsOrMends at h
  refine Met.ofW (cc := cX3_eatsOrMends) (maxL := 2) (ret := (some .boolean)) (by decide) rfl ?_
  intro p e s m args below meth c s₁ B hml hv
  obtain ⟨rfl, hP, hK, hD, hA, hN⟩ := hv
  have hx := B.exec
  have hb := B.bytes
  have hr := B.returns
  have hlocks := B.notSynchronized
  have hts : ∀ w ∈ wsU, w.before _ s = true := fun w h => atoms_spec (ws := us_X3_eatsOrMends) B.pre w (List.mem_cons_of_mem _ h)
  have hown : s.vm.findClass RX3 = some m.cls := findClass_of_methodNamed B.named
  have hC : Cx p m c cX3_eatsOrMends 2 s _ wsU RX3 D cy := ⟨⟨hx, hb, hml, hown, hts⟩, hK, hN⟩
  have hW : Wd D cy 55 shX ad A s.heap σ s.heap [] := ⟨hP, hD, va_S.rf, hA⟩
  have hl := lv_entry ([.ref (ad 31)]) (n := 2) (Nat.le_of_ble_eq_true rfl)
  rw [lg_entry_eq]
  generalize (lg_sl ([.ref (ad 31)]) ++ List.replicate (2 - (lg_sl ([.ref (ad 31)])).length) Slot.unset).toArray = ls at hl ⊢
  have hl : lv_has ls 2 [(0, .ref (ad 31))] := hl
  have L2 : ∀ (f : Nat) (v1 : Int32), t_X3_eatsOrMends_2 N f v1 σ = some r → ∀ (H : Heap) (locs : List Loc), Wd D cy 55 shX ad A s.heap σ H locs → ∀ ls : Array Slot, lv_has ls 2 [(0, .ref (ad 31)), (1, .int v1)] → Gi p l e us_X3_eatsOrMends ({ frames := 3, cells := 0, slots := 0, locals := 63 } : Room) s m [.ref (ad 31)] below meth c D cy 55 shX ad A r σ H locs (F0 m 2 ls []) := by
    intro f
    unfold t_X3_eatsOrMends_2
    refine loopG_ind (fun (T : Int32 → Hp → Option Int32) => ∀ (v1 : Int32), T v1 σ = some r → ∀ (H : Heap) (locs : List Loc), Wd D cy 55 shX ad A s.heap σ H locs → ∀ ls : Array Slot, lv_has ls 2 [(0, .ref (ad 31)), (1, .int v1)] → Gi p l e us_X3_eatsOrMends ({ frames := 3, cells := 0, slots := 0, locals := 63 } : Room) s m [.ref (ad 31)] below meth c D cy 55 shX ad A r σ H locs (F0 m 2 ls [])) ?_ ?_ f
    · intro v1 h; exact absurd h (by simp)
    · intro k2 ih2
      intro v1 h H locs hW ls hl
      refine lv_iload_n hx hb dX3_eatsOrMends_2 rfl (lv_at hl 1 rfl) ?_
      refine lv_aload_n hx hb dX3_eatsOrMends_3 rfl (lv_at hl 0 rfl) ?_
      refine r_geti hC hW 0 (Nat.le_of_ble_eq_true rfl) rfl rfl rfl (by decide) inUX3 (hts _ wd_126) rfl dX3_eatsOrMends_4 ?_
      refine lv_icmp_ge (tgt := 26) hx hb dX3_eatsOrMends_7 (by decide) (fun cq => ?_) (fun cq => ?_)
      · replace h := tp cq h
        refine lv_iconst (v := 0) hx hb dX3_eatsOrMends_26 (by decide) ?_
        exact r_zretP (Or.inl rfl) hC hr hlocks h hW dX3_eatsOrMends_27
      · replace h := tn cq h
        refine lv_aload_n hx hb dX3_eatsOrMends_10 rfl (lv_at hl 0 rfl) ?_
        refine lv_iload_n hx hb dX3_eatsOrMends_11 rfl (lv_at hl 1 rfl) ?_
        replace h := bd h
        obtain ⟨r1, hc, h⟩ := h
        refine r_calli hW (va_runV (As := [.int v1]) (rest := []) hC.1 (c_X3_eatsOrMendsAt l D cy ad A _ _ _ hc) (cwV 1 hts (gdV wd_129 wd_130 wd_131 wd_104 wd_128) rfl rfl rfl (by decide +kernel) ⟨Nat.le_of_ble_eq_true rfl, Nat.le_of_ble_eq_true rfl⟩) (r_preV hC hW (Nat.le_of_ble_eq_true rfl) rfl rfl) rfl rfl hl.1 rfl (lv_room (Nat.le_of_ble_eq_true rfl)) dX3_eatsOrMends_12 ⟨Nat.zero_le _, Nat.zero_le _⟩) (fun H locs hWn => ?_)
        replace hW := hWn
        clear hWn hc
        refine lv_if_eq (tgt := 20) hx hb dX3_eatsOrMends_15 (by decide) (fun cq => ?_) (fun cq => ?_)
        · replace h := tp cq h
          replace h := bx h
          obtain ⟨x2, ex2, h⟩ := h
          refine lv_iinc (v := x2) (lv' := [(1, .int x2), (0, .ref (ad 31))]) hx hb dX3_eatsOrMends_20 hl (k := 1) rfl (by rw [ex2]; rfl) (by decide) rfl (fun ls hln => ?_)
          replace hl := hln
          clear hln ex2
          refine lv_goto (tgt := 2) hx hb dX3_eatsOrMends_23 (by decide) ?_
          exact ih2 _ h _ _ hW _ (lv_sub hl [1, 0] rfl)
        · replace h := tn cq h
          refine lv_iconst (v := 1) hx hb dX3_eatsOrMends_18 (by decide) ?_
          exact r_zretP (Or.inr rfl) hC hr hlocks h hW dX3_eatsOrMends_19
  refine lv_iconst (v := 0) hx hb dX3_eatsOrMends_0 (by decide) ?_
  refine lv_istore_n (lv' := [(1, .int 0), (0, .ref (ad 31))]) hx hb dX3_eatsOrMends_1 rfl hl (by decide) rfl (fun ls hln => ?_)
  replace hl := hln
  clear hln
  exact L2 _ _ h _ _ hW _ (lv_sub hl [1, 0] rfl)
set_option maxHeartbeats 4000000 in
set_option maxRecDepth 100000 in
theorem c_X3_isDigitOfEgg (l : Launch) (D : va_G) (cy : ClassId × ClassId) (ad : Nat → Nat) (A : Nat → Prop) (p0 : Int32) (p1 : Int32) (σ : Hp) (r : Int32) (h : t_X3_isDigitOfEgg p0 p1 σ = some r) : Ci l yX3_isDigitOfEgg us_X3_isDigitOfEgg ({ frames := 2, cells := 0, slots := 0, locals := 42 } : Room) D cy 55 shX ad A [.ref (ad 31), .int p0, .int p1] σ r σ := by
  unfold t_X3_isDigitOfEgg at h
  refine Met.ofW (cc := cX3_isDigitOfEgg) (maxL := 3) (ret := (some .boolean)) (by decide) rfl ?_
  intro p e s m args below meth c s₁ B hml hv
  obtain ⟨rfl, hP, hK, hD, hA, hN⟩ := hv
  have hx := B.exec
  have hb := B.bytes
  have hr := B.returns
  have hlocks := B.notSynchronized
  have hts : ∀ w ∈ wsU, w.before _ s = true := fun w h => atoms_spec (ws := us_X3_isDigitOfEgg) B.pre w (List.mem_cons_of_mem _ h)
  have hown : s.vm.findClass RX3 = some m.cls := findClass_of_methodNamed B.named
  have hC : Cx p m c cX3_isDigitOfEgg 3 s _ wsU RX3 D cy := ⟨⟨hx, hb, hml, hown, hts⟩, hK, hN⟩
  have hW : Wd D cy 55 shX ad A s.heap σ s.heap [] := ⟨hP, hD, va_S.rf, hA⟩
  have hl := lv_entry ([.ref (ad 31), .int p0, .int p1]) (n := 3) (Nat.le_of_ble_eq_true rfl)
  rw [lg_entry_eq]
  generalize (lg_sl ([.ref (ad 31), .int p0, .int p1]) ++ List.replicate (3 - (lg_sl ([.ref (ad 31), .int p0, .int p1])).length) Slot.unset).toArray = ls at hl ⊢
  have hl : lv_has ls 3 [(0, .ref (ad 31)), (1, .int p0), (2, .int p1)] := hl
  refine lv_aload_n hx hb dX3_isDigitOfEgg_0 rfl (lv_at hl 0 rfl) ?_
  refine lv_iload_n hx hb dX3_isDigitOfEgg_1 rfl (lv_at hl 1 rfl) ?_
  replace h := bd h
  obtain ⟨r1, hc, h⟩ := h
  refine r_calli hW (va_runV (As := [.int p0]) (rest := []) hC.1 (c_X3_sign l D cy ad A _ _ _ hc) (cwV 1 hts (gdV wd_127 wd_105 wd_106 wd_104 wd_103) rfl rfl rfl (by decide +kernel) ⟨Nat.le_of_ble_eq_true rfl, Nat.le_of_ble_eq_true rfl⟩) (r_preV hC hW (Nat.le_of_ble_eq_true rfl) rfl rfl) rfl rfl hl.1 rfl (lv_room (Nat.le_of_ble_eq_true rfl)) dX3_isDigitOfEgg_2 ⟨Nat.zero_le _, Nat.zero_le _⟩) (fun H locs hWn => ?_)
  replace hW := hWn
  clear hWn hc
  refine lv_bipush (v := 48) hx hb dX3_isDigitOfEgg_5 (by decide) ?_
  refine lv_bipush (v := 48) hx hb dX3_isDigitOfEgg_7 (by decide) ?_
  refine lv_iload_n hx hb dX3_isDigitOfEgg_9 rfl (lv_at hl 2 rfl) ?_
  refine lv_iadd hx hb dX3_isDigitOfEgg_10 ?_
  refine lv_iconst (v := 1) hx hb dX3_isDigitOfEgg_11 (by decide) ?_
  refine lv_isub hx hb dX3_isDigitOfEgg_12 ?_
  replace h := bd h
  obtain ⟨r2, hc, h⟩ := h
  refine r_calli hW (va_runSN (As := [.int r1, .int 48, .int ((48 + p1) - 1)]) (rest := []) hC.1 (c_X6_isWithin l D cy ad A _ _ _ _ _ hc) ⟨va_cnB 3 hts (gdN wd_100) rfl rfl rfl (NL.at hC.2.2 nw_RX3_31 rfl) (hts _ wd_5) (by decide +kernel) ⟨Nat.le_of_ble_eq_true rfl, Nat.le_of_ble_eq_true rfl⟩, hts _ wd_102, trivial⟩ (r_preS hC hW) rfl rfl hl.1 rfl (lv_room (Nat.le_of_ble_eq_true rfl)) dX3_isDigitOfEgg_13 ⟨Nat.zero_le _, Nat.zero_le _⟩) (fun H locs hWn => ?_)
  replace hW := hWn
  clear hWn hc
  replace h := oz h
  obtain ⟨hz, h⟩ := h
  exact r_zretP hz hC hr hlocks h hW dX3_isDigitOfEgg_16
set_option maxHeartbeats 4000000 in
set_option maxRecDepth 100000 in
theorem c_X3_orderFault (l : Launch) (D : va_G) (cy : ClassId × ClassId) (ad : Nat → Nat) (A : Nat → Prop) (N : Nat) (p0 : Int32) (σ : Hp) (r : Int32) (h : t_X3_orderFault N p0 σ = some r) : Ci l yX3_orderFault us_X3_orderFault ({ frames := 3, cells := 0, slots := 0, locals := 64 } : Room) D cy 55 shX ad A [.ref (ad 31), .int p0] σ r σ := by
  unfold t_X3_orderFault at h
  refine Met.ofW (cc := cX3_orderFault) (maxL := 4) (ret := (some .int)) (by decide) rfl ?_
  intro p e s m args below meth c s₁ B hml hv
  obtain ⟨rfl, hP, hK, hD, hA, hN⟩ := hv
  have hx := B.exec
  have hb := B.bytes
  have hr := B.returns
  have hlocks := B.notSynchronized
  have hts : ∀ w ∈ wsU, w.before _ s = true := fun w h => atoms_spec (ws := us_X3_orderFault) B.pre w (List.mem_cons_of_mem _ h)
  have hown : s.vm.findClass RX3 = some m.cls := findClass_of_methodNamed B.named
  have hC : Cx p m c cX3_orderFault 4 s _ wsU RX3 D cy := ⟨⟨hx, hb, hml, hown, hts⟩, hK, hN⟩
  have hW : Wd D cy 55 shX ad A s.heap σ s.heap [] := ⟨hP, hD, va_S.rf, hA⟩
  have hl := lv_entry ([.ref (ad 31), .int p0]) (n := 4) (Nat.le_of_ble_eq_true rfl)
  rw [lg_entry_eq]
  generalize (lg_sl ([.ref (ad 31), .int p0]) ++ List.replicate (4 - (lg_sl ([.ref (ad 31), .int p0])).length) Slot.unset).toArray = ls at hl ⊢
  have hl : lv_has ls 4 [(0, .ref (ad 31)), (1, .int p0)] := hl
  have L4 : ∀ (f : Nat) (v1 : Int32) (v2 : Int32) (v3 : Int32), t_X3_orderFault_4 N f v1 v2 v3 σ = some r → ∀ (H : Heap) (locs : List Loc), Wd D cy 55 shX ad A s.heap σ H locs → ∀ ls : Array Slot, lv_has ls 4 [(0, .ref (ad 31)), (1, .int v1), (2, .int v2), (3, .int v3)] → Gi p l e us_X3_orderFault ({ frames := 3, cells := 0, slots := 0, locals := 64 } : Room) s m [.ref (ad 31), .int p0] below meth c D cy 55 shX ad A r σ H locs (F0 m 4 ls []) := by
    intro f
    unfold t_X3_orderFault_4
    refine loopG_ind (fun (T : Int32 → Int32 → Int32 → Hp → Option Int32) => ∀ (v1 : Int32) (v2 : Int32) (v3 : Int32), T v1 v2 v3 σ = some r → ∀ (H : Heap) (locs : List Loc), Wd D cy 55 shX ad A s.heap σ H locs → ∀ ls : Array Slot, lv_has ls 4 [(0, .ref (ad 31)), (1, .int v1), (2, .int v2), (3, .int v3)] → Gi p l e us_X3_orderFault ({ frames := 3, cells := 0, slots := 0, locals := 64 } : Room) s m [.ref (ad 31), .int p0] below meth c D cy 55 shX ad A r σ H locs (F0 m 4 ls [])) ?_ ?_ f
    · intro v1 v2 v3 h; exact absurd h (by simp)
    · intro k4 ih4
      intro v1 v2 v3 h H locs hW ls hl
      refine lv_iload_n hx hb dX3_orderFault_4 rfl (lv_at hl 3 rfl) ?_
      refine lv_aload_n hx hb dX3_orderFault_5 rfl (lv_at hl 0 rfl) ?_
      refine r_geti hC hW 0 (Nat.le_of_ble_eq_true rfl) rfl rfl rfl (by decide) inUX3 (hts _ wd_126) rfl dX3_orderFault_6 ?_
      refine lv_icmp_ge (tgt := 63) hx hb dX3_orderFault_9 (by decide) (fun cq => ?_) (fun cq => ?_)
      · replace h := tp cq h
        refine lv_aload_n hx hb dX3_orderFault_63 rfl (lv_at hl 0 rfl) ?_
        refine r_geti hC hW 0 (Nat.le_of_ble_eq_true rfl) rfl rfl rfl (by decide) inUX3 (hts _ wd_126) rfl dX3_orderFault_64 ?_
        refine lv_iload_n hx hb dX3_orderFault_67 rfl (lv_at hl 1 rfl) ?_
        refine lv_icmp_ge (tgt := 78) hx hb dX3_orderFault_68 (by decide) (fun cq => ?_) (fun cq => ?_)
        · replace h := tp cq h
          refine lv_bipush (v := (-6)) hx hb dX3_orderFault_78 (by decide) ?_
          exact r_iretP hC hr hlocks h hW dX3_orderFault_80
        · replace h := tn cq h
          refine lv_aload_n hx hb dX3_orderFault_71 rfl (lv_at hl 0 rfl) ?_
          refine r_geti hC hW 0 (Nat.le_of_ble_eq_true rfl) rfl rfl rfl (by decide) inUX3 (hts _ wd_126) rfl dX3_orderFault_72 ?_
          refine lv_goto (tgt := 80) hx hb dX3_orderFault_75 (by decide) ?_
          exact r_iretP hC hr hlocks h hW dX3_orderFault_80
      · replace h := tn cq h
        refine lv_iload_n hx hb dX3_orderFault_12 rfl (lv_at hl 3 rfl) ?_
        refine lv_iload_n hx hb dX3_orderFault_13 rfl (lv_at hl 1 rfl) ?_
        refine lv_icmp_ge (tgt := 41) hx hb dX3_orderFault_14 (by decide) (fun cq => ?_) (fun cq => ?_)
        · replace h := tp cq h
          refine lv_iload_n hx hb dX3_orderFault_41 rfl (lv_at hl 3 rfl) ?_
          exact r_iretP hC hr hlocks h hW dX3_orderFault_42
        · replace h := tn cq h
          refine lv_aload_n hx hb dX3_orderFault_17 rfl (lv_at hl 0 rfl) ?_
          refine lv_iload_n hx hb dX3_orderFault_18 rfl (lv_at hl 3 rfl) ?_
          refine lv_iload_n hx hb dX3_orderFault_19 rfl (lv_at hl 1 rfl) ?_
          replace h := bd h
          obtain ⟨r1, hc, h⟩ := h
          refine r_calli hW (va_runV (As := [.int v3, .int v1]) (rest := []) hC.1 (c_X3_isDigitOfEgg l D cy ad A _ _ _ _ hc) (cwV 2 hts (gdV wd_133 wd_134 wd_135 wd_104 wd_132) rfl rfl rfl (by decide +kernel) ⟨Nat.le_of_ble_eq_true rfl, Nat.le_of_ble_eq_true rfl⟩) (r_preV hC hW (Nat.le_of_ble_eq_true rfl) rfl rfl) rfl rfl hl.1 rfl (lv_room (Nat.le_of_ble_eq_true rfl)) dX3_orderFault_20 ⟨Nat.zero_le _, Nat.zero_le _⟩) (fun H locs hWn => ?_)
          replace hW := hWn
          clear hWn hc
          refine lv_if_eq (tgt := 41) hx hb dX3_orderFault_23 (by decide) (fun cq => ?_) (fun cq => ?_)
          · replace h := tp cq h
            refine lv_iload_n hx hb dX3_orderFault_41 rfl (lv_at hl 3 rfl) ?_
            exact r_iretP hC hr hlocks h hW dX3_orderFault_42
          · replace h := tn cq h
            refine lv_iload_n hx hb dX3_orderFault_26 rfl (lv_at hl 2 rfl) ?_
            refine lv_aload_n hx hb dX3_orderFault_27 rfl (lv_at hl 0 rfl) ?_
            refine lv_iload_n hx hb dX3_orderFault_28 rfl (lv_at hl 3 rfl) ?_
            replace h := bd h
            obtain ⟨r2, hc, h⟩ := h
            refine r_calli hW (va_runV (As := [.int v3]) (rest := [.int v2]) hC.1 (c_X3_sign l D cy ad A _ _ _ hc) (cwV 1 hts (gdV wd_127 wd_105 wd_106 wd_104 wd_103) rfl rfl rfl (by decide +kernel) ⟨Nat.le_of_ble_eq_true rfl, Nat.le_of_ble_eq_true rfl⟩) (r_preV hC hW (Nat.le_of_ble_eq_true rfl) rfl rfl) rfl rfl hl.1 rfl (lv_room (Nat.le_of_ble_eq_true rfl)) dX3_orderFault_29 ⟨Nat.zero_le _, Nat.zero_le _⟩) (fun H locs hWn => ?_)
            replace hW := hWn
            clear hWn hc
            refine lv_bipush (v := 48) hx hb dX3_orderFault_32 (by decide) ?_
            refine lv_isub hx hb dX3_orderFault_34 ?_
            replace h := bd h
            obtain ⟨r3, hc, h⟩ := h
            refine r_calli hW (va_runSN (As := [.int v2, .int (r2 - 48)]) (rest := []) hC.1 (c_X6_hasBit l D cy ad A _ _ _ _ hc) ⟨va_cnB 2 hts (gdN wd_31) rfl rfl rfl (NL.at hC.2.2 nw_RX3_39 rfl) (hts _ wd_5) (by decide +kernel) ⟨Nat.le_of_ble_eq_true rfl, Nat.le_of_ble_eq_true rfl⟩, hts _ wd_32, trivial⟩ (r_preS hC hW) rfl rfl hl.1 rfl (lv_room (Nat.le_of_ble_eq_true rfl)) dX3_orderFault_35 ⟨Nat.zero_le _, Nat.zero_le _⟩) (fun H locs hWn => ?_)
            replace hW := hWn
            clear hWn hc
            refine lv_if_eq (tgt := 43) hx hb dX3_orderFault_38 (by decide) (fun cq => ?_) (fun cq => ?_)
            · replace h := tp cq h
              refine lv_iload_n hx hb dX3_orderFault_43 rfl (lv_at hl 2 rfl) ?_
              refine lv_aload_n hx hb dX3_orderFault_44 rfl (lv_at hl 0 rfl) ?_
              refine lv_iload_n hx hb dX3_orderFault_45 rfl (lv_at hl 3 rfl) ?_
              replace h := bd h
              obtain ⟨r4, hc, h⟩ := h
              refine r_calli hW (va_runV (As := [.int v3]) (rest := [.int v2]) hC.1 (c_X3_sign l D cy ad A _ _ _ hc) (cwV 1 hts (gdV wd_127 wd_105 wd_106 wd_104 wd_103) rfl rfl rfl (by decide +kernel) ⟨Nat.le_of_ble_eq_true rfl, Nat.le_of_ble_eq_true rfl⟩) (r_preV hC hW (Nat.le_of_ble_eq_true rfl) rfl rfl) rfl rfl hl.1 rfl (lv_room (Nat.le_of_ble_eq_true rfl)) dX3_orderFault_46 ⟨Nat.zero_le _, Nat.zero_le _⟩) (fun H locs hWn => ?_)
              replace hW := hWn
              clear hWn hc
              refine lv_bipush (v := 48) hx hb dX3_orderFault_49 (by decide) ?_
              refine lv_isub hx hb dX3_orderFault_51 ?_
              replace h := bd h
              obtain ⟨r5, hc, h⟩ := h
              refine r_calli hW (va_runSN (As := [.int (r4 - 48)]) (rest := [.int v2]) hC.1 (c_X6_bit l D cy ad A _ _ _ hc) ⟨va_cnB 1 hts (gdN wd_25) rfl rfl rfl (NL.at hC.2.2 nw_RX3_42 rfl) (hts _ wd_5) (by decide +kernel) ⟨Nat.le_of_ble_eq_true rfl, Nat.le_of_ble_eq_true rfl⟩, hts _ wd_26, trivial⟩ (r_preS hC hW) rfl rfl hl.1 rfl (lv_room (Nat.le_of_ble_eq_true rfl)) dX3_orderFault_52 ⟨Nat.zero_le _, Nat.zero_le _⟩) (fun H locs hWn => ?_)
              replace hW := hWn
              clear hWn hc
              refine lv_ior hx hb dX3_orderFault_55 ?_
              replace h := bx h
              obtain ⟨x6, ex6, h⟩ := h
              refine tope ex6 ?_
              clear ex6
              refine lv_istore_n (lv' := [(2, .int x6), (0, .ref (ad 31)), (1, .int v1), (3, .int v3)]) hx hb dX3_orderFault_56 rfl hl (by decide) rfl (fun ls hln => ?_)
              replace hl := hln
              clear hln
              replace h := bx h
              obtain ⟨x7, ex7, h⟩ := h
              refine lv_iinc (v := x7) (lv' := [(3, .int x7), (2, .int x6), (0, .ref (ad 31)), (1, .int v1)]) hx hb dX3_orderFault_57 hl (k := 3) rfl (by rw [ex7]; rfl) (by decide) rfl (fun ls hln => ?_)
              replace hl := hln
              clear hln ex7
              refine lv_goto (tgt := 4) hx hb dX3_orderFault_60 (by decide) ?_
              exact ih4 _ _ _ h _ _ hW _ (lv_sub hl [2, 3, 1, 0] rfl)
            · replace h := tn cq h
              refine lv_iload_n hx hb dX3_orderFault_41 rfl (lv_at hl 3 rfl) ?_
              exact r_iretP hC hr hlocks h hW dX3_orderFault_42
  refine lv_iconst (v := 0) hx hb dX3_orderFault_0 (by decide) ?_
  refine lv_istore_n (lv' := [(2, .int 0), (0, .ref (ad 31)), (1, .int p0)]) hx hb dX3_orderFault_1 rfl hl (by decide) rfl (fun ls hln => ?_)
  replace hl := hln
  clear hln
  refine lv_iconst (v := 0) hx hb dX3_orderFault_2 (by decide) ?_
  refine lv_istore_n (lv' := [(3, .int 0), (2, .int 0), (0, .ref (ad 31)), (1, .int p0)]) hx hb dX3_orderFault_3 rfl hl (by decide) rfl (fun ls hln => ?_)
  replace hl := hln
  clear hln
  exact L4 _ _ _ _ h _ _ hW _ (lv_sub hl [2, 3, 1, 0] rfl)
set_option maxHeartbeats 4000000 in
set_option maxRecDepth 100000 in
theorem c_X3_weekFault (l : Launch) (D : va_G) (cy : ClassId × ClassId) (ad : Nat → Nat) (A : Nat → Prop) (N : Nat) (p0 : Int32) (σ : Hp) (r : Int32) (h : t_X3_weekFault N p0 σ = some r) : Ci l yX3_weekFault us_X3_weekFault ({ frames := 3, cells := 0, slots := 0, locals := 64 } : Room) D cy 55 shX ad A [.ref (ad 31), .int p0] σ r σ := by
  unfold t_X3_weekFault at h
  refine Met.ofW (cc := cX3_weekFault) (maxL := 4) (ret := (some .int)) (by decide) rfl ?_
  intro p e s m args below meth c s₁ B hml hv
  obtain ⟨rfl, hP, hK, hD, hA, hN⟩ := hv
  have hx := B.exec
  have hb := B.bytes
  have hr := B.returns
  have hlocks := B.notSynchronized
  have hts : ∀ w ∈ wsU, w.before _ s = true := fun w h => atoms_spec (ws := us_X3_weekFault) B.pre w (List.mem_cons_of_mem _ h)
  have hown : s.vm.findClass RX3 = some m.cls := findClass_of_methodNamed B.named
  have hC : Cx p m c cX3_weekFault 4 s _ wsU RX3 D cy := ⟨⟨hx, hb, hml, hown, hts⟩, hK, hN⟩
  have hW : Wd D cy 55 shX ad A s.heap σ s.heap [] := ⟨hP, hD, va_S.rf, hA⟩
  have hl := lv_entry ([.ref (ad 31), .int p0]) (n := 4) (Nat.le_of_ble_eq_true rfl)
  rw [lg_entry_eq]
  generalize (lg_sl ([.ref (ad 31), .int p0]) ++ List.replicate (4 - (lg_sl ([.ref (ad 31), .int p0])).length) Slot.unset).toArray = ls at hl ⊢
  have hl : lv_has ls 4 [(0, .ref (ad 31)), (1, .int p0)] := hl
  have L4 : ∀ (f : Nat) (v1 : Int32) (v2 : Int32) (v3 : Int32), t_X3_weekFault_4 N f v1 v2 v3 σ = some r → ∀ (H : Heap) (locs : List Loc), Wd D cy 55 shX ad A s.heap σ H locs → ∀ ls : Array Slot, lv_has ls 4 [(0, .ref (ad 31)), (1, .int v1), (2, .int v2), (3, .int v3)] → Gi p l e us_X3_weekFault ({ frames := 3, cells := 0, slots := 0, locals := 64 } : Room) s m [.ref (ad 31), .int p0] below meth c D cy 55 shX ad A r σ H locs (F0 m 4 ls []) := by
    intro f
    unfold t_X3_weekFault_4
    refine loopG_ind (fun (T : Int32 → Int32 → Int32 → Hp → Option Int32) => ∀ (v1 : Int32) (v2 : Int32) (v3 : Int32), T v1 v2 v3 σ = some r → ∀ (H : Heap) (locs : List Loc), Wd D cy 55 shX ad A s.heap σ H locs → ∀ ls : Array Slot, lv_has ls 4 [(0, .ref (ad 31)), (1, .int v1), (2, .int v2), (3, .int v3)] → Gi p l e us_X3_weekFault ({ frames := 3, cells := 0, slots := 0, locals := 64 } : Room) s m [.ref (ad 31), .int p0] below meth c D cy 55 shX ad A r σ H locs (F0 m 4 ls [])) ?_ ?_ f
    · intro v1 v2 v3 h; exact absurd h (by simp)
    · intro k4 ih4
      have J79 : ∀ (v1 : Int32) (v2 : Int32) (v3 : Int32), t_X3_weekFault_79 N k4 v1 v2 v3 σ = some r → ∀ (H : Heap) (locs : List Loc), Wd D cy 55 shX ad A s.heap σ H locs → ∀ ls : Array Slot, lv_has ls 4 [(0, .ref (ad 31)), (1, .int v1), (2, .int v2), (3, .int v3)] → Gi p l e us_X3_weekFault ({ frames := 3, cells := 0, slots := 0, locals := 64 } : Room) s m [.ref (ad 31), .int p0] below meth c D cy 55 shX ad A r σ H locs (F0 m 79 ls []) := by
        intro v1 v2 v3 h H locs hW ls hl
        unfold t_X3_weekFault_79 at h
        replace h := bx h
        obtain ⟨x1, ex1, h⟩ := h
        refine lv_iinc (v := x1) (lv' := [(3, .int x1), (0, .ref (ad 31)), (1, .int v1), (2, .int v2)]) hx hb dX3_weekFault_79 hl (k := 3) rfl (by rw [ex1]; rfl) (by decide) rfl (fun ls hln => ?_)
        replace hl := hln
        clear hln ex1
        refine lv_goto (tgt := 4) hx hb dX3_weekFault_82 (by decide) ?_
        exact ih4 _ _ _ h _ _ hW _ (lv_sub hl [1, 2, 3, 0] rfl)
      have J37 : ∀ (v1 : Int32) (v3 : Int32), t_X3_weekFault_37 N k4 v1 v3 σ = some r → ∀ (H : Heap) (locs : List Loc), Wd D cy 55 shX ad A s.heap σ H locs → ∀ ls : Array Slot, lv_has ls 4 [(0, .ref (ad 31)), (1, .int v1), (3, .int v3)] → Gi p l e us_X3_weekFault ({ frames := 3, cells := 0, slots := 0, locals := 64 } : Room) s m [.ref (ad 31), .int p0] below meth c D cy 55 shX ad A r σ H locs (F0 m 37 ls []) := by
        intro v1 v3 h H locs hW ls hl
        unfold t_X3_weekFault_37 at h
        refine lv_iconst (v := 0) hx hb dX3_weekFault_37 (by decide) ?_
        refine lv_istore_n (lv' := [(2, .int 0), (0, .ref (ad 31)), (1, .int v1), (3, .int v3)]) hx hb dX3_weekFault_38 rfl hl (by decide) rfl (fun ls hln => ?_)
        replace hl := hln
        clear hln
        refine lv_goto (tgt := 79) hx hb dX3_weekFault_39 (by decide) ?_
        exact J79 _ _ _ h _ _ hW _ (lv_sub hl [1, 2, 0, 3] rfl)
      intro v1 v2 v3 h H locs hW ls hl
      refine lv_iload_n hx hb dX3_weekFault_4 rfl (lv_at hl 3 rfl) ?_
      refine lv_aload_n hx hb dX3_weekFault_5 rfl (lv_at hl 0 rfl) ?_
      refine r_geti hC hW 0 (Nat.le_of_ble_eq_true rfl) rfl rfl rfl (by decide) inUX3 (hts _ wd_126) rfl dX3_weekFault_6 ?_
      refine lv_icmp_ge (tgt := 85) hx hb dX3_weekFault_9 (by decide) (fun cq => ?_) (fun cq => ?_)
      · replace h := tp cq h
        refine lv_iload_n hx hb dX3_weekFault_85 rfl (lv_at hl 2 rfl) ?_
        refine lv_if_eq (tgt := 96) hx hb dX3_weekFault_86 (by decide) (fun cq => ?_) (fun cq => ?_)
        · replace h := tp cq h
          refine lv_bipush (v := (-6)) hx hb dX3_weekFault_96 (by decide) ?_
          exact r_iretP hC hr hlocks h hW dX3_weekFault_98
        · replace h := tn cq h
          refine lv_aload_n hx hb dX3_weekFault_89 rfl (lv_at hl 0 rfl) ?_
          refine r_geti hC hW 0 (Nat.le_of_ble_eq_true rfl) rfl rfl rfl (by decide) inUX3 (hts _ wd_126) rfl dX3_weekFault_90 ?_
          refine lv_goto (tgt := 98) hx hb dX3_weekFault_93 (by decide) ?_
          exact r_iretP hC hr hlocks h hW dX3_weekFault_98
      · replace h := tn cq h
        refine lv_iload_n hx hb dX3_weekFault_12 rfl (lv_at hl 2 rfl) ?_
        refine lv_if_eq (tgt := 42) hx hb dX3_weekFault_13 (by decide) (fun cq => ?_) (fun cq => ?_)
        · replace h := tp cq h
          refine lv_aload_n hx hb dX3_weekFault_42 rfl (lv_at hl 0 rfl) ?_
          refine lv_iload_n hx hb dX3_weekFault_43 rfl (lv_at hl 3 rfl) ?_
          refine lv_iload_n hx hb dX3_weekFault_44 rfl (lv_at hl 1 rfl) ?_
          replace h := bd h
          obtain ⟨r2, hc, h⟩ := h
          refine r_calli hW (va_runV (As := [.int v3, .int v1]) (rest := []) hC.1 (c_X3_isDigitOfEgg l D cy ad A _ _ _ _ hc) (cwV 2 hts (gdV wd_133 wd_134 wd_135 wd_104 wd_132) rfl rfl rfl (by decide +kernel) ⟨Nat.le_of_ble_eq_true rfl, Nat.le_of_ble_eq_true rfl⟩) (r_preV hC hW (Nat.le_of_ble_eq_true rfl) rfl rfl) rfl rfl hl.1 rfl (lv_room (Nat.le_of_ble_eq_true rfl)) dX3_weekFault_45 ⟨Nat.zero_le _, Nat.zero_le _⟩) (fun H locs hWn => ?_)
          replace hW := hWn
          clear hWn hc
          refine lv_if_eq (tgt := 56) hx hb dX3_weekFault_48 (by decide) (fun cq => ?_) (fun cq => ?_)
          · replace h := tp cq h
            refine lv_aload_n hx hb dX3_weekFault_56 rfl (lv_at hl 0 rfl) ?_
            refine lv_iload_n hx hb dX3_weekFault_57 rfl (lv_at hl 3 rfl) ?_
            replace h := bd h
            obtain ⟨r3, hc, h⟩ := h
            refine r_calli hW (va_runV (As := [.int v3]) (rest := []) hC.1 (c_X3_sign l D cy ad A _ _ _ hc) (cwV 1 hts (gdV wd_127 wd_105 wd_106 wd_104 wd_103) rfl rfl rfl (by decide +kernel) ⟨Nat.le_of_ble_eq_true rfl, Nat.le_of_ble_eq_true rfl⟩) (r_preV hC hW (Nat.le_of_ble_eq_true rfl) rfl rfl) rfl rfl hl.1 rfl (lv_room (Nat.le_of_ble_eq_true rfl)) dX3_weekFault_58 ⟨Nat.zero_le _, Nat.zero_le _⟩) (fun H locs hWn => ?_)
            replace hW := hWn
            clear hWn hc
            refine lv_bipush (v := 46) hx hb dX3_weekFault_61 (by decide) ?_
            refine lv_icmp_eq (tgt := 79) hx hb dX3_weekFault_63 (by decide) (fun cq => ?_) (fun cq => ?_)
            · replace h := tp cq h
              exact J79 _ _ _ h _ _ hW _ (lv_sub hl [0, 1, 2, 3] rfl)
            · replace h := tn cq h
              refine lv_aload_n hx hb dX3_weekFault_66 rfl (lv_at hl 0 rfl) ?_
              refine lv_iload_n hx hb dX3_weekFault_67 rfl (lv_at hl 3 rfl) ?_
              replace h := bd h
              obtain ⟨r4, hc, h⟩ := h
              refine r_calli hW (va_runV (As := [.int v3]) (rest := []) hC.1 (c_X3_sign l D cy ad A _ _ _ hc) (cwV 1 hts (gdV wd_127 wd_105 wd_106 wd_104 wd_103) rfl rfl rfl (by decide +kernel) ⟨Nat.le_of_ble_eq_true rfl, Nat.le_of_ble_eq_true rfl⟩) (r_preV hC hW (Nat.le_of_ble_eq_true rfl) rfl rfl) rfl rfl hl.1 rfl (lv_room (Nat.le_of_ble_eq_true rfl)) dX3_weekFault_68 ⟨Nat.zero_le _, Nat.zero_le _⟩) (fun H locs hWn => ?_)
              replace hW := hWn
              clear hWn hc
              replace h := bd h
              obtain ⟨r5, hc, h⟩ := h
              refine r_calli hW (va_runSN (As := [.int r4]) (rest := []) hC.1 (c_X6_isHouseSign l D cy ad A _ _ _ hc) ⟨va_cnB 1 hts (gdN wd_107) rfl rfl rfl (NL.at hC.2.2 nw_RX3_45 rfl) (hts _ wd_5) (by decide +kernel) ⟨Nat.le_of_ble_eq_true rfl, Nat.le_of_ble_eq_true rfl⟩, hts _ wd_108, trivial⟩ (r_preS hC hW) rfl rfl hl.1 rfl (lv_room (Nat.le_of_ble_eq_true rfl)) dX3_weekFault_71 ⟨Nat.zero_le _, Nat.zero_le _⟩) (fun H locs hWn => ?_)
              replace hW := hWn
              clear hWn hc
              refine lv_if_ne (tgt := 79) hx hb dX3_weekFault_74 (by decide) (fun cq => ?_) (fun cq => ?_)
              · replace h := tn cq h
                exact J79 _ _ _ h _ _ hW _ (lv_sub hl [0, 1, 2, 3] rfl)
              · replace h := tp cq h
                refine lv_iload_n hx hb dX3_weekFault_77 rfl (lv_at hl 3 rfl) ?_
                exact r_iretP hC hr hlocks h hW dX3_weekFault_78
          · replace h := tn cq h
            refine lv_iconst (v := 1) hx hb dX3_weekFault_51 (by decide) ?_
            refine lv_istore_n (lv' := [(2, .int 1), (0, .ref (ad 31)), (1, .int v1), (3, .int v3)]) hx hb dX3_weekFault_52 rfl hl (by decide) rfl (fun ls hln => ?_)
            replace hl := hln
            clear hln
            refine lv_goto (tgt := 79) hx hb dX3_weekFault_53 (by decide) ?_
            exact J79 _ _ _ h _ _ hW _ (lv_sub hl [1, 2, 0, 3] rfl)
        · replace h := tn cq h
          refine lv_aload_n hx hb dX3_weekFault_16 rfl (lv_at hl 0 rfl) ?_
          refine lv_iload_n hx hb dX3_weekFault_17 rfl (lv_at hl 3 rfl) ?_
          replace h := bd h
          obtain ⟨r6, hc, h⟩ := h
          refine r_calli hW (va_runV (As := [.int v3]) (rest := []) hC.1 (c_X3_sign l D cy ad A _ _ _ hc) (cwV 1 hts (gdV wd_127 wd_105 wd_106 wd_104 wd_103) rfl rfl rfl (by decide +kernel) ⟨Nat.le_of_ble_eq_true rfl, Nat.le_of_ble_eq_true rfl⟩) (r_preV hC hW (Nat.le_of_ble_eq_true rfl) rfl rfl) rfl rfl hl.1 rfl (lv_room (Nat.le_of_ble_eq_true rfl)) dX3_weekFault_18 ⟨Nat.zero_le _, Nat.zero_le _⟩) (fun H locs hWn => ?_)
          replace hW := hWn
          clear hWn hc
          replace h := bd h
          obtain ⟨r7, hc, h⟩ := h
          refine r_calli hW (va_runSN (As := [.int r6]) (rest := []) hC.1 (c_X6_isHouseSign l D cy ad A _ _ _ hc) ⟨va_cnB 1 hts (gdN wd_107) rfl rfl rfl (NL.at hC.2.2 nw_RX3_45 rfl) (hts _ wd_5) (by decide +kernel) ⟨Nat.le_of_ble_eq_true rfl, Nat.le_of_ble_eq_true rfl⟩, hts _ wd_108, trivial⟩ (r_preS hC hW) rfl rfl hl.1 rfl (lv_room (Nat.le_of_ble_eq_true rfl)) dX3_weekFault_21 ⟨Nat.zero_le _, Nat.zero_le _⟩) (fun H locs hWn => ?_)
          replace hW := hWn
          clear hWn hc
          refine lv_if_ne (tgt := 37) hx hb dX3_weekFault_24 (by decide) (fun cq => ?_) (fun cq => ?_)
          · replace h := tn cq h
            exact J37 _ _ h _ _ hW _ (lv_sub hl [0, 1, 3] rfl)
          · replace h := tp cq h
            refine lv_aload_n hx hb dX3_weekFault_27 rfl (lv_at hl 0 rfl) ?_
            refine lv_iload_n hx hb dX3_weekFault_28 rfl (lv_at hl 3 rfl) ?_
            replace h := bd h
            obtain ⟨r8, hc, h⟩ := h
            refine r_calli hW (va_runV (As := [.int v3]) (rest := []) hC.1 (c_X3_eatsOrMendsAt l D cy ad A _ _ _ hc) (cwV 1 hts (gdV wd_129 wd_130 wd_131 wd_104 wd_128) rfl rfl rfl (by decide +kernel) ⟨Nat.le_of_ble_eq_true rfl, Nat.le_of_ble_eq_true rfl⟩) (r_preV hC hW (Nat.le_of_ble_eq_true rfl) rfl rfl) rfl rfl hl.1 rfl (lv_room (Nat.le_of_ble_eq_true rfl)) dX3_weekFault_29 ⟨Nat.zero_le _, Nat.zero_le _⟩) (fun H locs hWn => ?_)
            replace hW := hWn
            clear hWn hc
            refine lv_if_ne (tgt := 37) hx hb dX3_weekFault_32 (by decide) (fun cq => ?_) (fun cq => ?_)
            · replace h := tn cq h
              exact J37 _ _ h _ _ hW _ (lv_sub hl [0, 1, 3] rfl)
            · replace h := tp cq h
              refine lv_iload_n hx hb dX3_weekFault_35 rfl (lv_at hl 3 rfl) ?_
              exact r_iretP hC hr hlocks h hW dX3_weekFault_36
  refine lv_iconst (v := 0) hx hb dX3_weekFault_0 (by decide) ?_
  refine lv_istore_n (lv' := [(2, .int 0), (0, .ref (ad 31)), (1, .int p0)]) hx hb dX3_weekFault_1 rfl hl (by decide) rfl (fun ls hln => ?_)
  replace hl := hln
  clear hln
  refine lv_iconst (v := 0) hx hb dX3_weekFault_2 (by decide) ?_
  refine lv_istore_n (lv' := [(3, .int 0), (2, .int 0), (0, .ref (ad 31)), (1, .int p0)]) hx hb dX3_weekFault_3 rfl hl (by decide) rfl (fun ls hln => ?_)
  replace hl := hln
  clear hln
  exact L4 _ _ _ _ h _ _ hW _ (lv_sub hl [2, 3, 1, 0] rfl)
set_option maxHeartbeats 4000000 in
set_option maxRecDepth 100000 in
theorem c_X4_copyFrom (l : Launch) (D : va_G) (cy : ClassId × ClassId) (ad : Nat → Nat) (A : Nat → Prop) (N : Nat) (o : Nat) (ho : isScene o) (o2 : Nat) (ho2 : isScene o2) (σ : Hp) (σ' : Hp) (h : t_X4_copyFrom N o o2 σ = some σ') : Cv l yX4_copyFrom us_X4_copyFrom ({ frames := 2, cells := 0, slots := 0, locals := 43 } : Room) D cy 55 shX ad A [.ref (ad o), .ref (ad o2)] σ σ' := by
  unfold t_X4_copyFrom at h
  refine Met.ofW (cc := cX4_copyFrom) (maxL := 2) (ret := none) (by decide) rfl ?_
  intro p e s m args below meth c s₁ B hml hv
  obtain ⟨rfl, hP, hK, hD, hA, hN⟩ := hv
  have hx := B.exec
  have hb := B.bytes
  have hr := B.returns
  have hlocks := B.notSynchronized
  have hts : ∀ w ∈ wsU, w.before _ s = true := fun w h => atoms_spec (ws := us_X4_copyFrom) B.pre w (List.mem_cons_of_mem _ h)
  have hown : s.vm.findClass RX4 = some m.cls := findClass_of_methodNamed B.named
  have hC : Cx p m c cX4_copyFrom 2 s _ wsU RX4 D cy := ⟨⟨hx, hb, hml, hown, hts⟩, hK, hN⟩
  have hW : Wd D cy 55 shX ad A s.heap σ s.heap [] := ⟨hP, hD, va_S.rf, hA⟩
  have hl := lv_entry ([.ref (ad o), .ref (ad o2)]) (n := 2) (Nat.le_of_ble_eq_true rfl)
  rw [lg_entry_eq]
  generalize (lg_sl ([.ref (ad o), .ref (ad o2)]) ++ List.replicate (2 - (lg_sl ([.ref (ad o), .ref (ad o2)])).length) Slot.unset).toArray = ls at hl ⊢
  have hl : lv_has ls 2 [(0, .ref (ad o)), (1, .ref (ad o2))] := hl
  refine lv_aload_n hx hb dX4_copyFrom_0 rfl (lv_at hl 0 rfl) ?_
  refine r_getr hC hW 0 (isScene_b ho 0 (Nat.zero_le _)) ho.2.1 rfl rfl (by decide) inUX4 (hts _ wd_136) rfl dX4_copyFrom_1 ?_
  refine lv_aload_n hx hb dX4_copyFrom_4 rfl (lv_at hl 1 rfl) ?_
  refine r_getr hC hW 0 (isScene_b ho2 0 (Nat.zero_le _)) ho2.2.1 rfl rfl (by decide) inUX4 (hts _ wd_136) rfl dX4_copyFrom_5 ?_
  replace h := bd h
  obtain ⟨σ1, hc, h⟩ := h
  refine r_callv hW (va_runVN (As := [.ref (ad (o2 + 1))]) (rest := []) hC.1 (c_X0_copyFrom l D cy ad A N (o + 1) ho.2.2.1 (o2 + 1) ho2.2.2.1 _ _ hc) ⟨va_cnB 1 hts (gdN wd_116) rfl rfl rfl (NL.at hC.2.2 nw_RX4_23 rfl) (hts _ wd_12) (by decide +kernel) ⟨Nat.le_of_ble_eq_true rfl, Nat.le_of_ble_eq_true rfl⟩, hts _ wd_117, hts _ wd_118⟩ (r_preV hC hW (isCoop_b ho.2.2.1 0 (Nat.zero_le _)) ho.2.2.1.2.1 rfl) rfl rfl hl.1 rfl (lv_room (Nat.le_of_ble_eq_true rfl)) dX4_copyFrom_8 ⟨Nat.zero_le _, Nat.zero_le _⟩) (fun H locs hWn => ?_)
  replace hW := hWn
  clear hWn hc
  refine lv_aload_n hx hb dX4_copyFrom_11 rfl (lv_at hl 0 rfl) ?_
  refine r_getr hC hW 1 (isScene_b ho 0 (Nat.zero_le _)) ho.2.1 rfl rfl (by decide) inUX4 (hts _ wd_137) rfl dX4_copyFrom_12 ?_
  refine lv_aload_n hx hb dX4_copyFrom_15 rfl (lv_at hl 1 rfl) ?_
  refine r_getr hC hW 1 (isScene_b ho2 0 (Nat.zero_le _)) ho2.2.1 rfl rfl (by decide) inUX4 (hts _ wd_137) rfl dX4_copyFrom_16 ?_
  replace h := bd h
  obtain ⟨σ2, hc, h⟩ := h
  refine r_callv hW (va_runVN (As := [.ref (ad (o2 + 4))]) (rest := []) hC.1 (c_X2_copyFrom l D cy ad A N (o + 4) ho.2.2.2 (o2 + 4) ho2.2.2.2 _ _ hc) ⟨va_cnB 1 hts (gdN wd_138) rfl rfl rfl (NL.at hC.2.2 nw_RX4_27 rfl) (hts _ wd_139) (by decide +kernel) ⟨Nat.le_of_ble_eq_true rfl, Nat.le_of_ble_eq_true rfl⟩, hts _ wd_140, hts _ wd_141⟩ (r_preV hC hW (isHints_b ho.2.2.2 0 (Nat.zero_le _)) ho.2.2.2.2.1 rfl) rfl rfl hl.1 rfl (lv_room (Nat.le_of_ble_eq_true rfl)) dX4_copyFrom_19 ⟨Nat.zero_le _, Nat.zero_le _⟩) (fun H locs hWn => ?_)
  replace hW := hWn
  clear hWn hc
  exact r_vretW hC hr hlocks h hW dX4_copyFrom_22
set_option maxHeartbeats 4000000 in
set_option maxRecDepth 100000 in
theorem c_X5_handle (l : Launch) (D : va_G) (cy : ClassId × ClassId) (ad : Nat → Nat) (A : Nat → Prop) (p0 : Int32) (p1 : Int32) (σ : Hp) (r : Int32) (σ' : Hp) (h : t_X5_handle p0 p1 σ = some (r, σ')) : Ci l yX5_handle us_X5_handle ({ frames := 2, cells := 0, slots := 0, locals := 45 } : Room) D cy 55 shX ad A [.ref (ad 33), .int p0, .int p1] σ r σ' := by
  unfold t_X5_handle at h
  refine Met.ofW (cc := cX5_handle) (maxL := 4) (ret := (some .int)) (by decide) rfl ?_
  intro p e s m args below meth c s₁ B hml hv
  obtain ⟨rfl, hP, hK, hD, hA, hN⟩ := hv
  have hx := B.exec
  have hb := B.bytes
  have hr := B.returns
  have hlocks := B.notSynchronized
  have hts : ∀ w ∈ wsU, w.before _ s = true := fun w h => atoms_spec (ws := us_X5_handle) B.pre w (List.mem_cons_of_mem _ h)
  have hown : s.vm.findClass RX5 = some m.cls := findClass_of_methodNamed B.named
  have hC : Cx p m c cX5_handle 4 s _ wsU RX5 D cy := ⟨⟨hx, hb, hml, hown, hts⟩, hK, hN⟩
  have hW : Wd D cy 55 shX ad A s.heap σ s.heap [] := ⟨hP, hD, va_S.rf, hA⟩
  have hl := lv_entry ([.ref (ad 33), .int p0, .int p1]) (n := 4) (Nat.le_of_ble_eq_true rfl)
  rw [lg_entry_eq]
  generalize (lg_sl ([.ref (ad 33), .int p0, .int p1]) ++ List.replicate (4 - (lg_sl ([.ref (ad 33), .int p0, .int p1])).length) Slot.unset).toArray = ls at hl ⊢
  have hl : lv_has ls 4 [(0, .ref (ad 33)), (1, .int p0), (2, .int p1)] := hl
  have J42 : ∀ (v1 : Int32) (v2 : Int32) (σ : Hp), t_X5_handle_42 v1 v2 σ = some (r, σ') → ∀ (H : Heap) (locs : List Loc), Wd D cy 55 shX ad A s.heap σ H locs → ∀ ls : Array Slot, lv_has ls 4 [(0, .ref (ad 33)), (1, .int v1), (2, .int v2)] → Gi p l e us_X5_handle ({ frames := 2, cells := 0, slots := 0, locals := 45 } : Room) s m [.ref (ad 33), .int p0, .int p1] below meth c D cy 55 shX ad A r σ' H locs (F0 m 42 ls []) := by
    intro v1 v2 σ h H locs hW ls hl
    unfold t_X5_handle_42 at h
    refine lv_iload_n hx hb dX5_handle_42 rfl (lv_at hl 2 rfl) ?_
    refine lv_bipush (v := 43) hx hb dX5_handle_43 (by decide) ?_
    refine lv_icmp_ne (tgt := 70) hx hb dX5_handle_45 (by decide) (fun cq => ?_) (fun cq => ?_)
    · replace h := tn cq h
      refine lv_iload_n hx hb dX5_handle_70 rfl (lv_at hl 2 rfl) ?_
      refine lv_bipush (v := 33) hx hb dX5_handle_71 (by decide) ?_
      refine lv_icmp_ne (tgt := 89) hx hb dX5_handle_73 (by decide) (fun cq => ?_) (fun cq => ?_)
      · replace h := tn cq h
        refine lv_aload_n hx hb dX5_handle_89 rfl (lv_at hl 0 rfl) ?_
        refine r_getr hC hW 0 (Nat.le_of_ble_eq_true rfl) rfl rfl rfl (by decide) inUX5 (hts _ wd_142) rfl dX5_handle_90 ?_
        refine lv_iload_n hx hb dX5_handle_93 rfl (lv_at hl 1 rfl) ?_
        refine lv_iconst (v := 3) hx hb dX5_handle_94 (by decide) ?_
        refine lv_iload_n hx hb dX5_handle_95 rfl (lv_at hl 2 rfl) ?_
        refine lv_bipush (v := 65) hx hb dX5_handle_96 (by decide) ?_
        refine lv_isub hx hb dX5_handle_98 ?_
        replace h := bd h
        obtain ⟨σ1, hc, h⟩ := h
        refine r_callv hW (va_runVN (As := [.int v1, .int 3, .int (v2 - 65)]) (rest := []) hC.1 (c_X0_setFact l D cy ad A 34 (c_coop 34 rfl) _ _ _ _ _ hc) ⟨va_cnB 3 hts (gdN wd_39) rfl rfl rfl (NL.at hC.2.2 nw_RX5_90 rfl) (hts _ wd_12) (by decide +kernel) ⟨Nat.le_of_ble_eq_true rfl, Nat.le_of_ble_eq_true rfl⟩, hts _ wd_41, hts _ wd_42⟩ (r_preV hC hW (Nat.le_of_ble_eq_true rfl) rfl rfl) rfl rfl hl.1 rfl (lv_room (Nat.le_of_ble_eq_true rfl)) dX5_handle_99 ⟨Nat.zero_le _, Nat.zero_le _⟩) (fun H locs hWn => ?_)
        replace hW := hWn
        clear hWn hc
        refine lv_iconst (v := 0) hx hb dX5_handle_102 (by decide) ?_
        exact r_iretW hC hr hlocks h hW dX5_handle_103
      · replace h := tp cq h
        refine lv_aload_n hx hb dX5_handle_76 rfl (lv_at hl 0 rfl) ?_
        refine r_getr hC hW 0 (Nat.le_of_ble_eq_true rfl) rfl rfl rfl (by decide) inUX5 (hts _ wd_142) rfl dX5_handle_77 ?_
        refine lv_iload_n hx hb dX5_handle_80 rfl (lv_at hl 1 rfl) ?_
        refine lv_iconst (v := 4) hx hb dX5_handle_81 (by decide) ?_
        refine lv_iconst (v := 2) hx hb dX5_handle_82 (by decide) ?_
        replace h := bd h
        obtain ⟨σ2, hc, h⟩ := h
        refine r_callv hW (va_runVN (As := [.int v1, .int 4, .int 2]) (rest := []) hC.1 (c_X0_setFact l D cy ad A 34 (c_coop 34 rfl) _ _ _ _ _ hc) ⟨va_cnB 3 hts (gdN wd_39) rfl rfl rfl (NL.at hC.2.2 nw_RX5_90 rfl) (hts _ wd_12) (by decide +kernel) ⟨Nat.le_of_ble_eq_true rfl, Nat.le_of_ble_eq_true rfl⟩, hts _ wd_41, hts _ wd_42⟩ (r_preV hC hW (Nat.le_of_ble_eq_true rfl) rfl rfl) rfl rfl hl.1 rfl (lv_room (Nat.le_of_ble_eq_true rfl)) dX5_handle_83 ⟨Nat.zero_le _, Nat.zero_le _⟩) (fun H locs hWn => ?_)
        replace hW := hWn
        clear hWn hc
        refine lv_goto (tgt := 102) hx hb dX5_handle_86 (by decide) ?_
        refine lv_iconst (v := 0) hx hb dX5_handle_102 (by decide) ?_
        exact r_iretW hC hr hlocks h hW dX5_handle_103
    · replace h := tp cq h
      refine lv_aload_n hx hb dX5_handle_48 rfl (lv_at hl 0 rfl) ?_
      refine r_getr hC hW 0 (Nat.le_of_ble_eq_true rfl) rfl rfl rfl (by decide) inUX5 (hts _ wd_142) rfl dX5_handle_49 ?_
      refine lv_iload_n hx hb dX5_handle_52 rfl (lv_at hl 1 rfl) ?_
      refine lv_iconst (v := 4) hx hb dX5_handle_53 (by decide) ?_
      refine lv_iconst (v := 1) hx hb dX5_handle_54 (by decide) ?_
      replace h := bd h
      obtain ⟨σ3, hc, h⟩ := h
      refine r_callv hW (va_runVN (As := [.int v1, .int 4, .int 1]) (rest := []) hC.1 (c_X0_setFact l D cy ad A 34 (c_coop 34 rfl) _ _ _ _ _ hc) ⟨va_cnB 3 hts (gdN wd_39) rfl rfl rfl (NL.at hC.2.2 nw_RX5_90 rfl) (hts _ wd_12) (by decide +kernel) ⟨Nat.le_of_ble_eq_true rfl, Nat.le_of_ble_eq_true rfl⟩, hts _ wd_41, hts _ wd_42⟩ (r_preV hC hW (Nat.le_of_ble_eq_true rfl) rfl rfl) rfl rfl hl.1 rfl (lv_room (Nat.le_of_ble_eq_true rfl)) dX5_handle_55 ⟨Nat.zero_le _, Nat.zero_le _⟩) (fun H locs hWn => ?_)
      replace hW := hWn
      clear hWn hc
      refine lv_aload_n hx hb dX5_handle_58 rfl (lv_at hl 0 rfl) ?_
      refine r_getr hC hW 1 (Nat.le_of_ble_eq_true rfl) rfl rfl rfl (by decide) inUX5 (hts _ wd_143) rfl dX5_handle_59 ?_
      refine lv_iload_n hx hb dX5_handle_62 rfl (lv_at hl 1 rfl) ?_
      refine lv_iconst (v := 0) hx hb dX5_handle_63 (by decide) ?_
      replace h := bd h
      obtain ⟨σ4, hc, h⟩ := h
      refine r_callv hW (va_runSN (As := [.ref (ad 37), .int v1, .int 0]) (rest := []) hC.1 (c_X6_put l D cy ad A 37 7 ⟨Nat.le_of_ble_eq_true rfl, rfl⟩ _ _ _ _ hc) ⟨va_cnB 3 hts (gdN wd_37) rfl rfl rfl (NL.at hC.2.2 nw_RX5_73 rfl) (hts _ wd_5) (by decide +kernel) ⟨Nat.le_of_ble_eq_true rfl, Nat.le_of_ble_eq_true rfl⟩, hts _ wd_38, trivial⟩ (r_preS hC hW) rfl rfl hl.1 rfl (lv_room (Nat.le_of_ble_eq_true rfl)) dX5_handle_64 ⟨Nat.zero_le _, Nat.zero_le _⟩) (fun H locs hWn => ?_)
      replace hW := hWn
      clear hWn hc
      refine lv_goto (tgt := 102) hx hb dX5_handle_67 (by decide) ?_
      refine lv_iconst (v := 0) hx hb dX5_handle_102 (by decide) ?_
      exact r_iretW hC hr hlocks h hW dX5_handle_103
  have J30 : ∀ (v1 : Int32) (v2 : Int32) (v3 : Int32) (σ : Hp), t_X5_handle_30 v1 v2 v3 σ = some (r, σ') → ∀ (H : Heap) (locs : List Loc), Wd D cy 55 shX ad A s.heap σ H locs → ∀ ls : Array Slot, lv_has ls 4 [(0, .ref (ad 33)), (1, .int v1), (2, .int v2), (3, .int v3)] → Gi p l e us_X5_handle ({ frames := 2, cells := 0, slots := 0, locals := 45 } : Room) s m [.ref (ad 33), .int p0, .int p1] below meth c D cy 55 shX ad A r σ' H locs (F0 m 30 ls []) := by
    intro v1 v2 v3 σ h H locs hW ls hl
    unfold t_X5_handle_30 at h
    refine lv_iload_n hx hb dX5_handle_30 rfl (lv_at hl 3 rfl) ?_
    refine lv_if_ne (tgt := 42) hx hb dX5_handle_31 (by decide) (fun cq => ?_) (fun cq => ?_)
    · replace h := tn cq h
      exact J42 _ _ _ h _ _ hW _ (lv_sub hl [0, 1, 2] rfl)
    · replace h := tp cq h
      refine lv_iload_n hx hb dX5_handle_34 rfl (lv_at hl 2 rfl) ?_
      refine lv_bipush (v := 43) hx hb dX5_handle_35 (by decide) ?_
      refine lv_icmp_ne (tgt := 42) hx hb dX5_handle_37 (by decide) (fun cq => ?_) (fun cq => ?_)
      · replace h := tn cq h
        exact J42 _ _ _ h _ _ hW _ (lv_sub hl [0, 1, 2] rfl)
      · replace h := tp cq h
        refine lv_iconst (v := 3) hx hb dX5_handle_40 (by decide) ?_
        exact r_iretW hC hr hlocks h hW dX5_handle_41
  refine lv_aload_n hx hb dX5_handle_0 rfl (lv_at hl 0 rfl) ?_
  refine r_getr hC hW 0 (Nat.le_of_ble_eq_true rfl) rfl rfl rfl (by decide) inUX5 (hts _ wd_142) rfl dX5_handle_1 ?_
  refine lv_iload_n hx hb dX5_handle_4 rfl (lv_at hl 1 rfl) ?_
  refine lv_iconst (v := 4) hx hb dX5_handle_5 (by decide) ?_
  replace h := bd h
  obtain ⟨r5, hc, h⟩ := h
  refine r_calli hW (va_runVN (As := [.int p0, .int 4]) (rest := []) hC.1 (c_X0_fact l D cy ad A 34 (c_coop 34 rfl) _ _ _ _ hc) ⟨va_cnB 2 hts (gdN wd_17) rfl rfl rfl (NL.at hC.2.2 nw_RX5_70 rfl) (hts _ wd_12) (by decide +kernel) ⟨Nat.le_of_ble_eq_true rfl, Nat.le_of_ble_eq_true rfl⟩, hts _ wd_19, hts _ wd_20⟩ (r_preV hC hW (Nat.le_of_ble_eq_true rfl) rfl rfl) rfl rfl hl.1 rfl (lv_room (Nat.le_of_ble_eq_true rfl)) dX5_handle_6 ⟨Nat.zero_le _, Nat.zero_le _⟩) (fun H locs hWn => ?_)
  replace hW := hWn
  clear hWn hc
  refine lv_istore_n (lv' := [(3, .int r5), (0, .ref (ad 33)), (1, .int p0), (2, .int p1)]) hx hb dX5_handle_9 rfl hl (by decide) rfl (fun ls hln => ?_)
  replace hl := hln
  clear hln
  refine lv_iload_n hx hb dX5_handle_10 rfl (lv_at hl 0 rfl) ?_
  refine lv_iconst (v := 1) hx hb dX5_handle_11 (by decide) ?_
  refine lv_icmp_ne (tgt := 17) hx hb dX5_handle_12 (by decide) (fun cq => ?_) (fun cq => ?_)
  · replace h := tn cq h
    refine lv_iload_n hx hb dX5_handle_17 rfl (lv_at hl 0 rfl) ?_
    refine lv_iconst (v := 2) hx hb dX5_handle_18 (by decide) ?_
    refine lv_icmp_ne (tgt := 30) hx hb dX5_handle_19 (by decide) (fun cq => ?_) (fun cq => ?_)
    · replace h := tn cq h
      exact J30 _ _ _ _ h _ _ hW _ (lv_sub hl [1, 2, 3, 0] rfl)
    · replace h := tp cq h
      refine lv_iload_n hx hb dX5_handle_22 rfl (lv_at hl 3 rfl) ?_
      refine lv_bipush (v := 43) hx hb dX5_handle_23 (by decide) ?_
      refine lv_icmp_eq (tgt := 30) hx hb dX5_handle_25 (by decide) (fun cq => ?_) (fun cq => ?_)
      · replace h := tp cq h
        exact J30 _ _ _ _ h _ _ hW _ (lv_sub hl [1, 2, 3, 0] rfl)
      · replace h := tn cq h
        refine lv_iconst (v := 2) hx hb dX5_handle_28 (by decide) ?_
        exact r_iretW hC hr hlocks h hW dX5_handle_29
  · replace h := tp cq h
    refine lv_iconst (v := 1) hx hb dX5_handle_15 (by decide) ?_
    exact r_iretW hC hr hlocks h hW dX5_handle_16
set_option maxHeartbeats 4000000 in
set_option maxRecDepth 100000 in
theorem c_X5_startFrom (l : Launch) (D : va_G) (cy : ClassId × ClassId) (ad : Nat → Nat) (A : Nat → Prop) (N : Nat) (σ : Hp) (σ' : Hp) (h : t_X5_startFrom N σ = some σ') : Cv l yX5_startFrom us_X5_startFrom ({ frames := 2, cells := 0, slots := 0, locals := 43 } : Room) D cy 55 shX ad A [.ref (ad 33), .ref (ad 2)] σ σ' := by
  unfold t_X5_startFrom at h
  refine Met.ofW (cc := cX5_startFrom) (maxL := 3) (ret := none) (by decide) rfl ?_
  intro p e s m args below meth c s₁ B hml hv
  obtain ⟨rfl, hP, hK, hD, hA, hN⟩ := hv
  have hx := B.exec
  have hb := B.bytes
  have hr := B.returns
  have hlocks := B.notSynchronized
  have hts : ∀ w ∈ wsU, w.before _ s = true := fun w h => atoms_spec (ws := us_X5_startFrom) B.pre w (List.mem_cons_of_mem _ h)
  have hown : s.vm.findClass RX5 = some m.cls := findClass_of_methodNamed B.named
  have hC : Cx p m c cX5_startFrom 3 s _ wsU RX5 D cy := ⟨⟨hx, hb, hml, hown, hts⟩, hK, hN⟩
  have hW : Wd D cy 55 shX ad A s.heap σ s.heap [] := ⟨hP, hD, va_S.rf, hA⟩
  have hl := lv_entry ([.ref (ad 33), .ref (ad 2)]) (n := 3) (Nat.le_of_ble_eq_true rfl)
  rw [lg_entry_eq]
  generalize (lg_sl ([.ref (ad 33), .ref (ad 2)]) ++ List.replicate (3 - (lg_sl ([.ref (ad 33), .ref (ad 2)])).length) Slot.unset).toArray = ls at hl ⊢
  have hl : lv_has ls 3 [(0, .ref (ad 33)), (1, .ref (ad 2))] := hl
  have L30 : ∀ (f : Nat) (v2 : Int32) (σ : Hp), t_X5_startFrom_30 N f v2 σ = some σ' → ∀ (H : Heap) (locs : List Loc), Wd D cy 55 shX ad A s.heap σ H locs → ∀ ls : Array Slot, lv_has ls 3 [(0, .ref (ad 33)), (2, .int v2)] → Gv p l e us_X5_startFrom ({ frames := 2, cells := 0, slots := 0, locals := 43 } : Room) s m [.ref (ad 33), .ref (ad 2)] below meth c D cy 55 shX ad A σ' H locs (F0 m 30 ls []) := by
    intro f
    unfold t_X5_startFrom_30
    refine loopG_ind (fun (T : Int32 → Hp → Option Hp) => ∀ (v2 : Int32) (σ : Hp), T v2 σ = some σ' → ∀ (H : Heap) (locs : List Loc), Wd D cy 55 shX ad A s.heap σ H locs → ∀ ls : Array Slot, lv_has ls 3 [(0, .ref (ad 33)), (2, .int v2)] → Gv p l e us_X5_startFrom ({ frames := 2, cells := 0, slots := 0, locals := 43 } : Room) s m [.ref (ad 33), .ref (ad 2)] below meth c D cy 55 shX ad A σ' H locs (F0 m 30 ls [])) ?_ ?_ f
    · intro v2 σ h; exact absurd h (by simp)
    · intro k30 ih30
      have J60 : ∀ (v2 : Int32) (s1 : Int32) (s2 : Int32) (σ : Hp), t_X5_startFrom_60 N k30 v2 s1 s2 σ = some σ' → ∀ (H : Heap) (locs : List Loc), Wd D cy 55 shX ad A s.heap σ H locs → ∀ ls : Array Slot, lv_has ls 3 [(0, .ref (ad 33)), (2, .int v2)] → Gv p l e us_X5_startFrom ({ frames := 2, cells := 0, slots := 0, locals := 43 } : Room) s m [.ref (ad 33), .ref (ad 2)] below meth c D cy 55 shX ad A σ' H locs (F0 m 60 ls [.int s2, .int s1, .ref (ad 37)]) := by
        intro v2 s1 s2 σ h H locs hW ls hl
        unfold t_X5_startFrom_60 at h
        replace h := bd h
        obtain ⟨σ1, hc, h⟩ := h
        refine r_callv hW (va_runSN (As := [.ref (ad 37), .int s1, .int s2]) (rest := []) hC.1 (c_X6_put l D cy ad A 37 7 ⟨Nat.le_of_ble_eq_true rfl, rfl⟩ _ _ _ _ hc) ⟨va_cnB 3 hts (gdN wd_37) rfl rfl rfl (NL.at hC.2.2 nw_RX5_73 rfl) (hts _ wd_5) (by decide +kernel) ⟨Nat.le_of_ble_eq_true rfl, Nat.le_of_ble_eq_true rfl⟩, hts _ wd_38, trivial⟩ (r_preS hC hW) rfl rfl hl.1 rfl (lv_room (Nat.le_of_ble_eq_true rfl)) dX5_startFrom_60 ⟨Nat.zero_le _, Nat.zero_le _⟩) (fun H locs hWn => ?_)
        replace hW := hWn
        clear hWn hc
        replace h := bx h
        obtain ⟨x2, ex2, h⟩ := h
        refine lv_iinc (v := x2) (lv' := [(2, .int x2), (0, .ref (ad 33))]) hx hb dX5_startFrom_63 hl (k := 1) rfl (by rw [ex2]; rfl) (by decide) rfl (fun ls hln => ?_)
        replace hl := hln
        clear hln ex2
        refine lv_goto (tgt := 30) hx hb dX5_startFrom_66 (by decide) ?_
        exact ih30 _ _ h _ _ hW _ (lv_sub hl [1, 0] rfl)
      intro v2 σ h H locs hW ls hl
      refine lv_iload_n hx hb dX5_startFrom_30 rfl (lv_at hl 1 rfl) ?_
      refine lv_bipush (v := 7) hx hb dX5_startFrom_31 (by decide) ?_
      refine lv_icmp_ge (tgt := 69) hx hb dX5_startFrom_33 (by decide) (fun cq => ?_) (fun cq => ?_)
      · replace h := tp cq h
        exact r_vretW hC hr hlocks h hW dX5_startFrom_69
      · replace h := tn cq h
        refine lv_aload_n hx hb dX5_startFrom_36 rfl (lv_at hl 0 rfl) ?_
        refine r_getr hC hW 1 (Nat.le_of_ble_eq_true rfl) rfl rfl rfl (by decide) inUX5 (hts _ wd_143) rfl dX5_startFrom_37 ?_
        refine lv_iload_n hx hb dX5_startFrom_40 rfl (lv_at hl 1 rfl) ?_
        refine lv_aload_n hx hb dX5_startFrom_41 rfl (lv_at hl 0 rfl) ?_
        refine r_getr hC hW 0 (Nat.le_of_ble_eq_true rfl) rfl rfl rfl (by decide) inUX5 (hts _ wd_142) rfl dX5_startFrom_42 ?_
        refine lv_iload_n hx hb dX5_startFrom_45 rfl (lv_at hl 1 rfl) ?_
        refine lv_iconst (v := 4) hx hb dX5_startFrom_46 (by decide) ?_
        replace h := bd h
        obtain ⟨r3, hc, h⟩ := h
        refine r_calli hW (va_runVN (As := [.int v2, .int 4]) (rest := [.int v2, .ref (ad 37)]) hC.1 (c_X0_fact l D cy ad A 34 (c_coop 34 rfl) _ _ _ _ hc) ⟨va_cnB 2 hts (gdN wd_17) rfl rfl rfl (NL.at hC.2.2 nw_RX5_70 rfl) (hts _ wd_12) (by decide +kernel) ⟨Nat.le_of_ble_eq_true rfl, Nat.le_of_ble_eq_true rfl⟩, hts _ wd_19, hts _ wd_20⟩ (r_preV hC hW (Nat.le_of_ble_eq_true rfl) rfl rfl) rfl rfl hl.1 rfl (lv_room (Nat.le_of_ble_eq_true rfl)) dX5_startFrom_47 ⟨Nat.zero_le _, Nat.zero_le _⟩) (fun H locs hWn => ?_)
        replace hW := hWn
        clear hWn hc
        refine lv_iconst (v := 1) hx hb dX5_startFrom_50 (by decide) ?_
        refine lv_icmp_ne (tgt := 58) hx hb dX5_startFrom_51 (by decide) (fun cq => ?_) (fun cq => ?_)
        · replace h := tn cq h
          refine lv_bipush (v := (-6)) hx hb dX5_startFrom_58 (by decide) ?_
          exact J60 _ _ _ _ h _ _ hW _ (lv_sub hl [0, 1] rfl)
        · replace h := tp cq h
          refine lv_iconst (v := 0) hx hb dX5_startFrom_54 (by decide) ?_
          refine lv_goto (tgt := 60) hx hb dX5_startFrom_55 (by decide) ?_
          exact J60 _ _ _ _ h _ _ hW _ (lv_sub hl [0, 1] rfl)
  refine lv_aload_n hx hb dX5_startFrom_0 rfl (lv_at hl 0 rfl) ?_
  refine r_getr hC hW 0 (Nat.le_of_ble_eq_true rfl) rfl rfl rfl (by decide) inUX5 (hts _ wd_142) rfl dX5_startFrom_1 ?_
  refine lv_aload_n hx hb dX5_startFrom_4 rfl (lv_at hl 1 rfl) ?_
  replace h := bd h
  obtain ⟨σ4, hc, h⟩ := h
  refine r_callv hW (va_runVN (As := [.ref (ad 2)]) (rest := []) hC.1 (c_X0_copyFrom l D cy ad A N 34 (c_coop 34 rfl) 2 (c_coop 2 rfl) _ _ hc) ⟨va_cnB 1 hts (gdN wd_116) rfl rfl rfl (NL.at hC.2.2 nw_RX5_61 rfl) (hts _ wd_12) (by decide +kernel) ⟨Nat.le_of_ble_eq_true rfl, Nat.le_of_ble_eq_true rfl⟩, hts _ wd_117, hts _ wd_118⟩ (r_preV hC hW (Nat.le_of_ble_eq_true rfl) rfl rfl) rfl rfl hl.1 rfl (lv_room (Nat.le_of_ble_eq_true rfl)) dX5_startFrom_5 ⟨Nat.zero_le _, Nat.zero_le _⟩) (fun H locs hWn => ?_)
  replace hW := hWn
  clear hWn hc
  refine lv_aload_n hx hb dX5_startFrom_8 rfl (lv_at hl 0 rfl) ?_
  refine lv_iconst (v := 0) hx hb dX5_startFrom_9 (by decide) ?_
  refine r_put hC hW 2 (Nat.le_of_ble_eq_true rfl) rfl rfl rfl (by decide) inUX5 tyX5 tyX5_ok nmX5 (hts _ wd_144) rfl rfl ⟨rfl, rfl⟩ dX5_startFrom_10 (fun σ5 eσ5 H locs hWn => ?_)
  replace h := bn eσ5 h
  replace hW := hWn
  clear hWn eσ5
  refine lv_aload_n hx hb dX5_startFrom_13 rfl (lv_at hl 0 rfl) ?_
  refine lv_iconst (v := 0) hx hb dX5_startFrom_14 (by decide) ?_
  refine r_put hC hW 3 (Nat.le_of_ble_eq_true rfl) rfl rfl rfl (by decide) inUX5 tyX5 tyX5_ok nmX5 (hts _ wd_145) rfl rfl ⟨rfl, rfl⟩ dX5_startFrom_15 (fun σ6 eσ6 H locs hWn => ?_)
  replace h := bn eσ6 h
  replace hW := hWn
  clear hWn eσ6
  refine lv_aload_n hx hb dX5_startFrom_18 rfl (lv_at hl 0 rfl) ?_
  refine lv_iconst (v := 0) hx hb dX5_startFrom_19 (by decide) ?_
  refine r_put hC hW 4 (Nat.le_of_ble_eq_true rfl) rfl rfl rfl (by decide) inUX5 tyX5 tyX5_ok nmX5 (hts _ wd_146) rfl rfl ⟨rfl, rfl⟩ dX5_startFrom_20 (fun σ7 eσ7 H locs hWn => ?_)
  replace h := bn eσ7 h
  replace hW := hWn
  clear hWn eσ7
  refine lv_aload_n hx hb dX5_startFrom_23 rfl (lv_at hl 0 rfl) ?_
  refine lv_iconst (v := 0) hx hb dX5_startFrom_24 (by decide) ?_
  refine r_put hC hW 5 (Nat.le_of_ble_eq_true rfl) rfl rfl rfl (by decide) inUX5 tyX5 tyX5_ok nmX5 (hts _ wd_147) rfl rfl ⟨rfl, rfl⟩ dX5_startFrom_25 (fun σ8 eσ8 H locs hWn => ?_)
  replace h := bn eσ8 h
  replace hW := hWn
  clear hWn eσ8
  refine lv_iconst (v := 0) hx hb dX5_startFrom_28 (by decide) ?_
  refine lv_istore_n (lv' := [(2, .int 0), (0, .ref (ad 33)), (1, .ref (ad 2))]) hx hb dX5_startFrom_29 rfl hl (by decide) rfl (fun ls hln => ?_)
  replace hl := hln
  clear hln
  exact L30 _ _ _ h _ _ hW _ (lv_sub hl [1, 0] rfl)
set_option maxHeartbeats 4000000 in
set_option maxRecDepth 100000 in
theorem c_X5_spendHour (l : Launch) (D : va_G) (cy : ClassId × ClassId) (ad : Nat → Nat) (A : Nat → Prop) (N : Nat) (σ : Hp) (σ' : Hp) (h : t_X5_spendHour N σ = some σ') : Cv l yX5_spendHour us_X5_spendHour ({ frames := 4, cells := 0, slots := 0, locals := 91 } : Room) D cy 55 shX ad A [.ref (ad 33)] σ σ' := by
  unfold t_X5_spendHour at h
  refine Met.ofW (cc := cX5_spendHour) (maxL := 3) (ret := none) (by decide) rfl ?_
  intro p e s m args below meth c s₁ B hml hv
  obtain ⟨rfl, hP, hK, hD, hA, hN⟩ := hv
  have hx := B.exec
  have hb := B.bytes
  have hr := B.returns
  have hlocks := B.notSynchronized
  have hts : ∀ w ∈ wsU, w.before _ s = true := fun w h => atoms_spec (ws := us_X5_spendHour) B.pre w (List.mem_cons_of_mem _ h)
  have hown : s.vm.findClass RX5 = some m.cls := findClass_of_methodNamed B.named
  have hC : Cx p m c cX5_spendHour 3 s _ wsU RX5 D cy := ⟨⟨hx, hb, hml, hown, hts⟩, hK, hN⟩
  have hW : Wd D cy 55 shX ad A s.heap σ s.heap [] := ⟨hP, hD, va_S.rf, hA⟩
  have hl := lv_entry ([.ref (ad 33)]) (n := 3) (Nat.le_of_ble_eq_true rfl)
  rw [lg_entry_eq]
  generalize (lg_sl ([.ref (ad 33)]) ++ List.replicate (3 - (lg_sl ([.ref (ad 33)])).length) Slot.unset).toArray = ls at hl ⊢
  have hl : lv_has ls 3 [(0, .ref (ad 33))] := hl
  have L33 : ∀ (f : Nat) (v1 : Int32) (v2 : Int32) (σ : Hp), t_X5_spendHour_33 N f v1 v2 σ = some σ' → ∀ (H : Heap) (locs : List Loc), Wd D cy 55 shX ad A s.heap σ H locs → ∀ ls : Array Slot, lv_has ls 3 [(0, .ref (ad 33)), (1, .int v1), (2, .int v2)] → Gv p l e us_X5_spendHour ({ frames := 4, cells := 0, slots := 0, locals := 91 } : Room) s m [.ref (ad 33)] below meth c D cy 55 shX ad A σ' H locs (F0 m 33 ls []) := by
    intro f
    unfold t_X5_spendHour_33
    refine loopG_ind (fun (T : Int32 → Int32 → Hp → Option Hp) => ∀ (v1 : Int32) (v2 : Int32) (σ : Hp), T v1 v2 σ = some σ' → ∀ (H : Heap) (locs : List Loc), Wd D cy 55 shX ad A s.heap σ H locs → ∀ ls : Array Slot, lv_has ls 3 [(0, .ref (ad 33)), (1, .int v1), (2, .int v2)] → Gv p l e us_X5_spendHour ({ frames := 4, cells := 0, slots := 0, locals := 91 } : Room) s m [.ref (ad 33)] below meth c D cy 55 shX ad A σ' H locs (F0 m 33 ls [])) ?_ ?_ f
    · intro v1 v2 σ h; exact absurd h (by simp)
    · intro k33 ih33
      have J59 : ∀ (v1 : Int32) (v2 : Int32) (σ : Hp), t_X5_spendHour_59 N k33 v1 v2 σ = some σ' → ∀ (H : Heap) (locs : List Loc), Wd D cy 55 shX ad A s.heap σ H locs → ∀ ls : Array Slot, lv_has ls 3 [(0, .ref (ad 33)), (1, .int v1), (2, .int v2)] → Gv p l e us_X5_spendHour ({ frames := 4, cells := 0, slots := 0, locals := 91 } : Room) s m [.ref (ad 33)] below meth c D cy 55 shX ad A σ' H locs (F0 m 59 ls []) := by
        intro v1 v2 σ h H locs hW ls hl
        unfold t_X5_spendHour_59 at h
        replace h := bx h
        obtain ⟨x1, ex1, h⟩ := h
        refine lv_iinc (v := x1) (lv' := [(2, .int x1), (0, .ref (ad 33)), (1, .int v1)]) hx hb dX5_spendHour_59 hl (k := 2) rfl (by rw [ex1]; rfl) (by decide) rfl (fun ls hln => ?_)
        replace hl := hln
        clear hln ex1
        refine lv_goto (tgt := 33) hx hb dX5_spendHour_62 (by decide) ?_
        exact ih33 _ _ _ h _ _ hW _ (lv_sub hl [1, 2, 0] rfl)
      intro v1 v2 σ h H locs hW ls hl
      refine lv_iload_n hx hb dX5_spendHour_33 rfl (lv_at hl 2 rfl) ?_
      refine lv_bipush (v := 7) hx hb dX5_spendHour_34 (by decide) ?_
      refine lv_icmp_ge (tgt := 65) hx hb dX5_spendHour_36 (by decide) (fun cq => ?_) (fun cq => ?_)
      · replace h := tp cq h
        exact r_vretW hC hr hlocks h hW dX5_spendHour_65
      · replace h := tn cq h
        refine lv_iload_n hx hb dX5_spendHour_39 rfl (lv_at hl 1 rfl) ?_
        refine lv_iload_n hx hb dX5_spendHour_40 rfl (lv_at hl 2 rfl) ?_
        replace h := bd h
        obtain ⟨r2, hc, h⟩ := h
        refine r_calli hW (va_runSN (As := [.int v1, .int v2]) (rest := []) hC.1 (c_X6_hasBit l D cy ad A _ _ _ _ hc) ⟨va_cnB 2 hts (gdN wd_31) rfl rfl rfl (NL.at hC.2.2 nw_RX5_86 rfl) (hts _ wd_5) (by decide +kernel) ⟨Nat.le_of_ble_eq_true rfl, Nat.le_of_ble_eq_true rfl⟩, hts _ wd_32, trivial⟩ (r_preS hC hW) rfl rfl hl.1 rfl (lv_room (Nat.le_of_ble_eq_true rfl)) dX5_spendHour_41 ⟨Nat.zero_le _, Nat.zero_le _⟩) (fun H locs hWn => ?_)
        replace hW := hWn
        clear hWn hc
        refine lv_if_eq (tgt := 59) hx hb dX5_spendHour_44 (by decide) (fun cq => ?_) (fun cq => ?_)
        · replace h := tp cq h
          exact J59 _ _ _ h _ _ hW _ (lv_sub hl [0, 1, 2] rfl)
        · replace h := tn cq h
          refine lv_aload_n hx hb dX5_spendHour_47 rfl (lv_at hl 0 rfl) ?_
          refine r_getr hC hW 1 (Nat.le_of_ble_eq_true rfl) rfl rfl rfl (by decide) inUX5 (hts _ wd_143) rfl dX5_spendHour_48 ?_
          refine lv_iload_n hx hb dX5_spendHour_51 rfl (lv_at hl 2 rfl) ?_
          refine lv_aload_n hx hb dX5_spendHour_52 rfl (lv_at hl 0 rfl) ?_
          refine r_geti hC hW 3 (Nat.le_of_ble_eq_true rfl) rfl rfl rfl (by decide) inUX5 (hts _ wd_145) rfl dX5_spendHour_53 ?_
          replace h := bd h
          obtain ⟨σ3, hc, h⟩ := h
          refine r_callv hW (va_runSN (As := [.ref (ad 37), .int v2, .int (σ 33 3)]) (rest := []) hC.1 (c_X6_put l D cy ad A 37 7 ⟨Nat.le_of_ble_eq_true rfl, rfl⟩ _ _ _ _ hc) ⟨va_cnB 3 hts (gdN wd_37) rfl rfl rfl (NL.at hC.2.2 nw_RX5_73 rfl) (hts _ wd_5) (by decide +kernel) ⟨Nat.le_of_ble_eq_true rfl, Nat.le_of_ble_eq_true rfl⟩, hts _ wd_38, trivial⟩ (r_preS hC hW) rfl rfl hl.1 rfl (lv_room (Nat.le_of_ble_eq_true rfl)) dX5_spendHour_56 ⟨Nat.zero_le _, Nat.zero_le _⟩) (fun H locs hWn => ?_)
          replace hW := hWn
          clear hWn hc
          exact J59 _ _ _ h _ _ hW _ (lv_sub hl [0, 1, 2] rfl)
  refine lv_aload_n hx hb dX5_spendHour_0 rfl (lv_at hl 0 rfl) ?_
  refine lv_dup hx hb dX5_spendHour_1 rfl ?_
  refine r_geti hC hW 3 (Nat.le_of_ble_eq_true rfl) rfl rfl rfl (by decide) inUX5 (hts _ wd_145) rfl dX5_spendHour_2 ?_
  refine lv_iconst (v := 1) hx hb dX5_spendHour_5 (by decide) ?_
  refine lv_iadd hx hb dX5_spendHour_6 ?_
  refine r_put hC hW 3 (Nat.le_of_ble_eq_true rfl) rfl rfl rfl (by decide) inUX5 tyX5 tyX5_ok nmX5 (hts _ wd_145) rfl rfl ⟨rfl, rfl⟩ dX5_spendHour_7 (fun σ4 eσ4 H locs hWn => ?_)
  replace h := bn eσ4 h
  replace hW := hWn
  clear hWn eσ4
  refine lv_aload_n hx hb dX5_spendHour_10 rfl (lv_at hl 0 rfl) ?_
  refine r_getr hC hW 0 (Nat.le_of_ble_eq_true rfl) rfl rfl rfl (by decide) inUX5 (hts _ wd_142) rfl dX5_spendHour_11 ?_
  replace h := ob h
  obtain ⟨r5, σ6, hc, h⟩ := h
  refine r_calli hW (va_runVN (As := []) (rest := []) hC.1 (c_X0_passHour l D cy ad A N 34 (c_coop 34 rfl) _ _ _ hc) ⟨va_cnB 0 hts (gdN wd_148) rfl rfl rfl (NL.at hC.2.2 nw_RX5_77 rfl) (hts _ wd_12) (by decide +kernel) ⟨Nat.le_of_ble_eq_true rfl, Nat.le_of_ble_eq_true rfl⟩, hts _ wd_149, hts _ wd_150⟩ (r_preV hC hW (Nat.le_of_ble_eq_true rfl) rfl rfl) rfl rfl hl.1 rfl (lv_room (Nat.le_of_ble_eq_true rfl)) dX5_spendHour_14 ⟨Nat.zero_le _, Nat.zero_le _⟩) (fun H locs hWn => ?_)
  replace hW := hWn
  clear hWn hc
  refine lv_istore_n (lv' := [(1, .int r5), (0, .ref (ad 33))]) hx hb dX5_spendHour_17 rfl hl (by decide) rfl (fun ls hln => ?_)
  replace hl := hln
  clear hln
  refine lv_aload_n hx hb dX5_spendHour_18 rfl (lv_at hl 1 rfl) ?_
  refine lv_dup hx hb dX5_spendHour_19 rfl ?_
  refine r_geti hC hW 4 (Nat.le_of_ble_eq_true rfl) rfl rfl rfl (by decide) inUX5 (hts _ wd_146) rfl dX5_spendHour_20 ?_
  refine lv_iload_n hx hb dX5_spendHour_23 rfl (lv_at hl 0 rfl) ?_
  replace h := bd h
  obtain ⟨r7, hc, h⟩ := h
  refine r_calli hW (va_runS (As := [.int r5]) (rest := [.int (σ6 33 4), .ref (ad 33)]) hC.1 (c_J6_bitCount_0f7a4 l D cy ad A _ _ _ hc) (va_cwS 1 hts (gdS wd_152 wd_153 wd_154 wd_151) rfl rfl rfl (by decide +kernel) ⟨Nat.le_of_ble_eq_true rfl, Nat.le_of_ble_eq_true rfl⟩) (r_preS hC hW) rfl rfl hl.1 rfl (lv_room (Nat.le_of_ble_eq_true rfl)) dX5_spendHour_24 ⟨Nat.zero_le _, Nat.zero_le _⟩) (fun H locs hWn => ?_)
  replace hW := hWn
  clear hWn hc
  refine lv_iadd hx hb dX5_spendHour_27 ?_
  refine r_put hC hW 4 (Nat.le_of_ble_eq_true rfl) rfl rfl rfl (by decide) inUX5 tyX5 tyX5_ok nmX5 (hts _ wd_146) rfl rfl ⟨rfl, rfl⟩ dX5_spendHour_28 (fun σ8 eσ8 H locs hWn => ?_)
  replace h := bn eσ8 h
  replace hW := hWn
  clear hWn eσ8
  refine lv_iconst (v := 0) hx hb dX5_spendHour_31 (by decide) ?_
  refine lv_istore_n (lv' := [(2, .int 0), (1, .int r5), (0, .ref (ad 33))]) hx hb dX5_spendHour_32 rfl hl (by decide) rfl (fun ls hln => ?_)
  replace hl := hln
  clear hln
  exact L33 _ _ _ _ h _ _ hW _ (lv_sub hl [2, 1, 0] rfl)
set_option maxHeartbeats 4000000 in
set_option maxRecDepth 100000 in
theorem c_X5_run (l : Launch) (D : va_G) (cy : ClassId × ClassId) (ad : Nat → Nat) (A : Nat → Prop) (N : Nat) (σ : Hp) (r : Int32) (σ' : Hp) (h : t_X5_run N σ = some (r, σ')) : Ci l yX5_run us_X5_run ({ frames := 5, cells := 0, slots := 0, locals := 113 } : Room) D cy 55 shX ad A [.ref (ad 33), .ref (ad 31), .ref (ad 2)] σ r σ' := by
  unfold t_X5_run at h
  refine Met.ofW (cc := cX5_run) (maxL := 5) (ret := (some .int)) (by decide) rfl ?_
  intro p e s m args below meth c s₁ B hml hv
  obtain ⟨rfl, hP, hK, hD, hA, hN⟩ := hv
  have hx := B.exec
  have hb := B.bytes
  have hr := B.returns
  have hlocks := B.notSynchronized
  have hts : ∀ w ∈ wsU, w.before _ s = true := fun w h => atoms_spec (ws := us_X5_run) B.pre w (List.mem_cons_of_mem _ h)
  have hown : s.vm.findClass RX5 = some m.cls := findClass_of_methodNamed B.named
  have hC : Cx p m c cX5_run 5 s _ wsU RX5 D cy := ⟨⟨hx, hb, hml, hown, hts⟩, hK, hN⟩
  have hW : Wd D cy 55 shX ad A s.heap σ s.heap [] := ⟨hP, hD, va_S.rf, hA⟩
  have hl := lv_entry ([.ref (ad 33), .ref (ad 31), .ref (ad 2)]) (n := 5) (Nat.le_of_ble_eq_true rfl)
  rw [lg_entry_eq]
  generalize (lg_sl ([.ref (ad 33), .ref (ad 31), .ref (ad 2)]) ++ List.replicate (5 - (lg_sl ([.ref (ad 33), .ref (ad 31), .ref (ad 2)])).length) Slot.unset).toArray = ls at hl ⊢
  have hl : lv_has ls 5 [(0, .ref (ad 33)), (1, .ref (ad 31)), (2, .ref (ad 2))] := hl
  have J126 : ∀ (σ : Hp), t_X5_run_126 N  σ = some (r, σ') → ∀ (H : Heap) (locs : List Loc), Wd D cy 55 shX ad A s.heap σ H locs → ∀ ls : Array Slot, lv_has ls 5 [(0, .ref (ad 33))] → Gi p l e us_X5_run ({ frames := 5, cells := 0, slots := 0, locals := 113 } : Room) s m [.ref (ad 33), .ref (ad 31), .ref (ad 2)] below meth c D cy 55 shX ad A r σ' H locs (F0 m 126 ls []) := by
    intro  σ h H locs hW ls hl
    unfold t_X5_run_126 at h
    refine lv_aload_n hx hb dX5_run_126 rfl (lv_at hl 0 rfl) ?_
    refine r_geti hC hW 5 (Nat.le_of_ble_eq_true rfl) rfl rfl rfl (by decide) inUX5 (hts _ wd_147) rfl dX5_run_127 ?_
    refine lv_if_ne (tgt := 137) hx hb dX5_run_130 (by decide) (fun cq => ?_) (fun cq => ?_)
    · replace h := tn cq h
      refine lv_bipush (v := (-3)) hx hb dX5_run_137 (by decide) ?_
      exact r_iretW hC hr hlocks h hW dX5_run_139
    · replace h := tp cq h
      refine lv_iconst (v := 0) hx hb dX5_run_133 (by decide) ?_
      refine lv_goto (tgt := 139) hx hb dX5_run_134 (by decide) ?_
      exact r_iretW hC hr hlocks h hW dX5_run_139
  have L23 : ∀ (f : Nat) (v3 : Int32) (σ : Hp), t_X5_run_23 N f v3 σ = some (r, σ') → ∀ (H : Heap) (locs : List Loc), Wd D cy 55 shX ad A s.heap σ H locs → ∀ ls : Array Slot, lv_has ls 5 [(0, .ref (ad 33)), (1, .ref (ad 31)), (3, .int v3)] → Gi p l e us_X5_run ({ frames := 5, cells := 0, slots := 0, locals := 113 } : Room) s m [.ref (ad 33), .ref (ad 31), .ref (ad 2)] below meth c D cy 55 shX ad A r σ' H locs (F0 m 23 ls []) := by
    intro f
    unfold t_X5_run_23
    refine loopG_ind (fun (T : Int32 → Hp → Option (Int32 × Hp)) => ∀ (v3 : Int32) (σ : Hp), T v3 σ = some (r, σ') → ∀ (H : Heap) (locs : List Loc), Wd D cy 55 shX ad A s.heap σ H locs → ∀ ls : Array Slot, lv_has ls 5 [(0, .ref (ad 33)), (1, .ref (ad 31)), (3, .int v3)] → Gi p l e us_X5_run ({ frames := 5, cells := 0, slots := 0, locals := 113 } : Room) s m [.ref (ad 33), .ref (ad 31), .ref (ad 2)] below meth c D cy 55 shX ad A r σ' H locs (F0 m 23 ls [])) ?_ ?_ f
    · intro v3 σ h; exact absurd h (by simp)
    · intro k23 ih23
      have J120 : ∀ (v3 : Int32) (σ : Hp), t_X5_run_120 N k23 v3 σ = some (r, σ') → ∀ (H : Heap) (locs : List Loc), Wd D cy 55 shX ad A s.heap σ H locs → ∀ ls : Array Slot, lv_has ls 5 [(0, .ref (ad 33)), (1, .ref (ad 31)), (3, .int v3)] → Gi p l e us_X5_run ({ frames := 5, cells := 0, slots := 0, locals := 113 } : Room) s m [.ref (ad 33), .ref (ad 31), .ref (ad 2)] below meth c D cy 55 shX ad A r σ' H locs (F0 m 120 ls []) := by
        intro v3 σ h H locs hW ls hl
        unfold t_X5_run_120 at h
        replace h := bx h
        obtain ⟨x1, ex1, h⟩ := h
        refine lv_iinc (v := x1) (lv' := [(3, .int x1), (0, .ref (ad 33)), (1, .ref (ad 31))]) hx hb dX5_run_120 hl (k := 2) rfl (by rw [ex1]; rfl) (by decide) rfl (fun ls hln => ?_)
        replace hl := hln
        clear hln ex1
        refine lv_goto (tgt := 23) hx hb dX5_run_123 (by decide) ?_
        exact ih23 _ _ h _ _ hW _ (lv_sub hl [1, 2, 0] rfl)
      have J103 : ∀ (v3 : Int32) (σ : Hp), t_X5_run_103 N k23 v3 σ = some (r, σ') → ∀ (H : Heap) (locs : List Loc), Wd D cy 55 shX ad A s.heap σ H locs → ∀ ls : Array Slot, lv_has ls 5 [(0, .ref (ad 33)), (1, .ref (ad 31)), (3, .int v3)] → Gi p l e us_X5_run ({ frames := 5, cells := 0, slots := 0, locals := 113 } : Room) s m [.ref (ad 33), .ref (ad 31), .ref (ad 2)] below meth c D cy 55 shX ad A r σ' H locs (F0 m 103 ls []) := by
        intro v3 σ h H locs hW ls hl
        unfold t_X5_run_103 at h
        refine lv_aload_n hx hb dX5_run_103 rfl (lv_at hl 0 rfl) ?_
        refine r_geti hC hW 5 (Nat.le_of_ble_eq_true rfl) rfl rfl rfl (by decide) inUX5 (hts _ wd_147) rfl dX5_run_104 ?_
        refine lv_if_ne (tgt := 120) hx hb dX5_run_107 (by decide) (fun cq => ?_) (fun cq => ?_)
        · replace h := tn cq h
          exact J120 _ _ h _ _ hW _ (lv_sub hl [0, 1, 2] rfl)
        · replace h := tp cq h
          refine lv_aload_n hx hb dX5_run_110 rfl (lv_at hl 0 rfl) ?_
          refine lv_dup hx hb dX5_run_111 rfl ?_
          refine r_geti hC hW 2 (Nat.le_of_ble_eq_true rfl) rfl rfl rfl (by decide) inUX5 (hts _ wd_144) rfl dX5_run_112 ?_
          refine lv_iconst (v := 1) hx hb dX5_run_115 (by decide) ?_
          refine lv_iadd hx hb dX5_run_116 ?_
          refine r_put hC hW 2 (Nat.le_of_ble_eq_true rfl) rfl rfl rfl (by decide) inUX5 tyX5 tyX5_ok nmX5 (hts _ wd_144) rfl rfl ⟨rfl, rfl⟩ dX5_run_117 (fun σ2 eσ2 H locs hWn => ?_)
          replace h := bn eσ2 h
          replace hW := hWn
          clear hWn eσ2
          exact J120 _ _ h _ _ hW _ (lv_sub hl [0, 1, 2] rfl)
      intro v3 σ h H locs hW ls hl
      refine lv_iload_n hx hb dX5_run_23 rfl (lv_at hl 2 rfl) ?_
      refine lv_aload_n hx hb dX5_run_24 rfl (lv_at hl 1 rfl) ?_
      refine r_getiN hC hW 0 (Nat.le_of_ble_eq_true rfl) rfl rfl rfl (by decide) inUX3 (hC.2.2.use nf_RX5_36 rfl) rfl dX5_run_25 ?_
      refine lv_icmp_ge (tgt := 126) hx hb dX5_run_28 (by decide) (fun cq => ?_) (fun cq => ?_)
      · replace h := tp cq h
        exact J126 _ h _ _ hW _ (lv_sub hl [0] rfl)
      · replace h := tn cq h
        refine lv_aload_n hx hb dX5_run_31 rfl (lv_at hl 0 rfl) ?_
        refine r_geti hC hW 5 (Nat.le_of_ble_eq_true rfl) rfl rfl rfl (by decide) inUX5 (hts _ wd_147) rfl dX5_run_32 ?_
        refine lv_if_ne (tgt := 126) hx hb dX5_run_35 (by decide) (fun cq => ?_) (fun cq => ?_)
        · replace h := tn cq h
          exact J126 _ h _ _ hW _ (lv_sub hl [0] rfl)
        · replace h := tp cq h
          refine lv_aload_n hx hb dX5_run_38 rfl (lv_at hl 1 rfl) ?_
          refine lv_iload_n hx hb dX5_run_39 rfl (lv_at hl 2 rfl) ?_
          replace h := bd h
          obtain ⟨r3, hc, h⟩ := h
          refine r_calli hW (va_runVN (As := [.int v3]) (rest := []) hC.1 (c_X3_sign l D cy ad A _ _ _ hc) ⟨va_cnB 1 hts (gdN wd_103) rfl rfl rfl (NL.at hC.2.2 nw_RX5_40 rfl) (hts _ wd_104) (by decide +kernel) ⟨Nat.le_of_ble_eq_true rfl, Nat.le_of_ble_eq_true rfl⟩, hts _ wd_105, hts _ wd_106⟩ (r_preV hC hW (Nat.le_of_ble_eq_true rfl) rfl rfl) rfl rfl hl.1 rfl (lv_room (Nat.le_of_ble_eq_true rfl)) dX5_run_40 ⟨Nat.zero_le _, Nat.zero_le _⟩) (fun H locs hWn => ?_)
          replace hW := hWn
          clear hWn hc
          refine lv_istore (lv' := [(4, .int r3), (0, .ref (ad 33)), (1, .ref (ad 31)), (3, .int v3)]) hx hb dX5_run_43 hl (by decide) rfl (fun ls hln => ?_)
          replace hl := hln
          clear hln
          refine lv_iload hx hb dX5_run_45 (lv_at hl 0 rfl) ?_
          refine lv_bipush (v := 46) hx hb dX5_run_47 (by decide) ?_
          refine lv_icmp_ne (tgt := 59) hx hb dX5_run_49 (by decide) (fun cq => ?_) (fun cq => ?_)
          · replace h := tn cq h
            refine lv_iload hx hb dX5_run_59 (lv_at hl 0 rfl) ?_
            replace h := bd h
            obtain ⟨r4, hc, h⟩ := h
            refine r_calli hW (va_runSN (As := [.int r3]) (rest := []) hC.1 (c_X6_isHouseSign l D cy ad A _ _ _ hc) ⟨va_cnB 1 hts (gdN wd_107) rfl rfl rfl (NL.at hC.2.2 nw_RX5_46 rfl) (hts _ wd_5) (by decide +kernel) ⟨Nat.le_of_ble_eq_true rfl, Nat.le_of_ble_eq_true rfl⟩, hts _ wd_108, trivial⟩ (r_preS hC hW) rfl rfl hl.1 rfl (lv_room (Nat.le_of_ble_eq_true rfl)) dX5_run_61 ⟨Nat.zero_le _, Nat.zero_le _⟩) (fun H locs hWn => ?_)
            replace hW := hWn
            clear hWn hc
            refine lv_if_eq (tgt := 82) hx hb dX5_run_64 (by decide) (fun cq => ?_) (fun cq => ?_)
            · replace h := tp cq h
              refine lv_aload_n hx hb dX5_run_82 rfl (lv_at hl 1 rfl) ?_
              refine lv_aload_n hx hb dX5_run_83 rfl (lv_at hl 1 rfl) ?_
              refine lv_iload hx hb dX5_run_84 (lv_at hl 0 rfl) ?_
              refine lv_bipush (v := 48) hx hb dX5_run_86 (by decide) ?_
              refine lv_isub hx hb dX5_run_88 ?_
              refine lv_aload_n hx hb dX5_run_89 rfl (lv_at hl 2 rfl) ?_
              replace h := bx h
              obtain ⟨x5, ex5, h⟩ := h
              refine lv_iinc (v := x5) (lv' := [(3, .int x5), (4, .int r3), (0, .ref (ad 33)), (1, .ref (ad 31))]) hx hb dX5_run_90 hl (k := 3) rfl (by rw [ex5]; rfl) (by decide) rfl (fun ls hln => ?_)
              replace hl := hln
              clear hln ex5
              refine lv_iload_n hx hb dX5_run_93 rfl (lv_at hl 0 rfl) ?_
              replace h := bd h
              obtain ⟨r6, hc, h⟩ := h
              refine r_calli hW (va_runVN (As := [.int x5]) (rest := [.int (r3 - 48), .ref (ad 33), .ref (ad 33)]) hC.1 (c_X3_sign l D cy ad A _ _ _ hc) ⟨va_cnB 1 hts (gdN wd_103) rfl rfl rfl (NL.at hC.2.2 nw_RX5_40 rfl) (hts _ wd_104) (by decide +kernel) ⟨Nat.le_of_ble_eq_true rfl, Nat.le_of_ble_eq_true rfl⟩, hts _ wd_105, hts _ wd_106⟩ (r_preV hC hW (Nat.le_of_ble_eq_true rfl) rfl rfl) rfl rfl hl.1 rfl (lv_room (Nat.le_of_ble_eq_true rfl)) dX5_run_94 ⟨Nat.zero_le _, Nat.zero_le _⟩) (fun H locs hWn => ?_)
              replace hW := hWn
              clear hWn hc
              replace h := ob h
              obtain ⟨r7, σ8, hc, h⟩ := h
              refine r_calli hW (va_runV (As := [.int (r3 - 48), .int r6]) (rest := [.ref (ad 33)]) hC.1 (c_X5_handle l D cy ad A _ _ _ _ _ hc) (cwV 2 hts (gdV wd_156 wd_157 wd_158 wd_159 wd_155) rfl rfl rfl (by decide +kernel) ⟨Nat.le_of_ble_eq_true rfl, Nat.le_of_ble_eq_true rfl⟩) (r_preV hC hW (Nat.le_of_ble_eq_true rfl) rfl rfl) rfl rfl hl.1 rfl (lv_room (Nat.le_of_ble_eq_true rfl)) dX5_run_97 ⟨Nat.zero_le _, Nat.zero_le _⟩) (fun H locs hWn => ?_)
              replace hW := hWn
              clear hWn hc
              refine r_put hC hW 5 (Nat.le_of_ble_eq_true rfl) rfl rfl rfl (by decide) inUX5 tyX5 tyX5_ok nmX5 (hts _ wd_147) rfl rfl ⟨rfl, rfl⟩ dX5_run_100 (fun σ9 eσ9 H locs hWn => ?_)
              replace h := bn eσ9 h
              replace hW := hWn
              clear hWn eσ9
              exact J103 _ _ h _ _ hW _ (lv_sub hl [2, 3, 0] rfl)
            · replace h := tn cq h
              refine lv_aload_n hx hb dX5_run_67 rfl (lv_at hl 1 rfl) ?_
              refine r_getr hC hW 0 (Nat.le_of_ble_eq_true rfl) rfl rfl rfl (by decide) inUX5 (hts _ wd_142) rfl dX5_run_68 ?_
              refine lv_iload hx hb dX5_run_71 (lv_at hl 0 rfl) ?_
              refine lv_bipush (v := 65) hx hb dX5_run_73 (by decide) ?_
              refine lv_isub hx hb dX5_run_75 ?_
              replace h := bd h
              obtain ⟨σ10, hc, h⟩ := h
              refine r_callv hW (va_runVN (As := [.int (r3 - 65)]) (rest := []) hC.1 (c_X0_turnStove l D cy ad A 34 (c_coop 34 rfl) _ _ _ hc) ⟨va_cnB 1 hts (gdN wd_109) rfl rfl rfl (NL.at hC.2.2 nw_RX5_50 rfl) (hts _ wd_12) (by decide +kernel) ⟨Nat.le_of_ble_eq_true rfl, Nat.le_of_ble_eq_true rfl⟩, hts _ wd_110, hts _ wd_111⟩ (r_preV hC hW (Nat.le_of_ble_eq_true rfl) rfl rfl) rfl rfl hl.1 rfl (lv_room (Nat.le_of_ble_eq_true rfl)) dX5_run_76 ⟨Nat.zero_le _, Nat.zero_le _⟩) (fun H locs hWn => ?_)
              replace hW := hWn
              clear hWn hc
              refine lv_goto (tgt := 103) hx hb dX5_run_79 (by decide) ?_
              exact J103 _ _ h _ _ hW _ (lv_sub hl [1, 2, 3] rfl)
          · replace h := tp cq h
            refine lv_aload_n hx hb dX5_run_52 rfl (lv_at hl 1 rfl) ?_
            replace h := bd h
            obtain ⟨σ11, hc, h⟩ := h
            refine r_callv hW (va_runV (As := []) (rest := []) hC.1 (c_X5_spendHour l D cy ad A N _ _ hc) (cwV 0 hts (gdV wd_161 wd_162 wd_163 wd_159 wd_160) rfl rfl rfl (by decide +kernel) ⟨Nat.le_of_ble_eq_true rfl, Nat.le_of_ble_eq_true rfl⟩) (r_preV hC hW (Nat.le_of_ble_eq_true rfl) rfl rfl) rfl rfl hl.1 rfl (lv_room (Nat.le_of_ble_eq_true rfl)) dX5_run_53 ⟨Nat.zero_le _, Nat.zero_le _⟩) (fun H locs hWn => ?_)
            replace hW := hWn
            clear hWn hc
            refine lv_goto (tgt := 103) hx hb dX5_run_56 (by decide) ?_
            exact J103 _ _ h _ _ hW _ (lv_sub hl [1, 2, 3] rfl)
  refine lv_aload_n hx hb dX5_run_0 rfl (lv_at hl 1 rfl) ?_
  refine lv_aload_n hx hb dX5_run_1 rfl (lv_at hl 2 rfl) ?_
  refine r_getiN hC hW 0 (Nat.le_of_ble_eq_true rfl) rfl rfl rfl (by decide) inUX0 (hC.2.2.use nf_RX5_22 rfl) rfl dX5_run_2 ?_
  replace h := bd h
  obtain ⟨r12, hc, h⟩ := h
  refine r_calli hW (va_runVN (As := [.int (σ 2 0)]) (rest := []) hC.1 (c_X3_weekFault l D cy ad A N _ _ _ hc) ⟨va_cnB 1 hts (gdN wd_164) rfl rfl rfl (NL.at hC.2.2 nw_RX5_26 rfl) (hts _ wd_104) (by decide +kernel) ⟨Nat.le_of_ble_eq_true rfl, Nat.le_of_ble_eq_true rfl⟩, hts _ wd_165, hts _ wd_166⟩ (r_preV hC hW (Nat.le_of_ble_eq_true rfl) rfl rfl) rfl rfl hl.1 rfl (lv_room (Nat.le_of_ble_eq_true rfl)) dX5_run_5 ⟨Nat.zero_le _, Nat.zero_le _⟩) (fun H locs hWn => ?_)
  replace hW := hWn
  clear hWn hc
  refine lv_bipush (v := (-6)) hx hb dX5_run_8 (by decide) ?_
  refine lv_icmp_eq (tgt := 16) hx hb dX5_run_10 (by decide) (fun cq => ?_) (fun cq => ?_)
  · replace h := tp cq h
    refine lv_aload_n hx hb dX5_run_16 rfl (lv_at hl 0 rfl) ?_
    refine lv_aload_n hx hb dX5_run_17 rfl (lv_at hl 2 rfl) ?_
    replace h := bd h
    obtain ⟨σ13, hc, h⟩ := h
    refine r_callv hW (va_runV (As := [.ref (ad 2)]) (rest := []) hC.1 (c_X5_startFrom l D cy ad A N _ _ hc) (cwV 1 hts (gdV wd_168 wd_169 wd_170 wd_159 wd_167) rfl rfl rfl (by decide +kernel) ⟨Nat.le_of_ble_eq_true rfl, Nat.le_of_ble_eq_true rfl⟩) (r_preV hC hW (Nat.le_of_ble_eq_true rfl) rfl rfl) rfl rfl hl.1 rfl (lv_room (Nat.le_of_ble_eq_true rfl)) dX5_run_18 ⟨Nat.zero_le _, Nat.zero_le _⟩) (fun H locs hWn => ?_)
    replace hW := hWn
    clear hWn hc
    refine lv_iconst (v := 0) hx hb dX5_run_21 (by decide) ?_
    refine lv_istore_n (lv' := [(3, .int 0), (0, .ref (ad 33)), (1, .ref (ad 31)), (2, .ref (ad 2))]) hx hb dX5_run_22 rfl hl (by decide) rfl (fun ls hln => ?_)
    replace hl := hln
    clear hln
    exact L23 _ _ _ h _ _ hW _ (lv_sub hl [1, 2, 0] rfl)
  · replace h := tn cq h
    refine lv_bipush (v := (-5)) hx hb dX5_run_13 (by decide) ?_
    exact r_iretW hC hr hlocks h hW dX5_run_15
