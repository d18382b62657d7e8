set_option maxHeartbeats 4000000 in
set_option maxRecDepth 100000 in
theorem c_X6_fault (l : Launch) (D : va_G) (cy : ClassId × ClassId) (ad : Nat → Nat) (A : Nat → Prop) (N : Nat) (p0 : Int32) (σ : Hp) (r : Int32) (h : t_X6_fault N p0 σ = some r) : Ci l yX6_fault us_X6_fault ({ frames := 4, cells := 0, slots := 0, locals := 87 } : Room) D cy 55 shX ad A [.ref (ad 0), .int p0] σ r σ := by
  unfold t_X6_fault at h
  refine Met.ofW (cc := cX6_fault) (maxL := 2) (ret := (some .int)) (by decide) rfl ?_
  intro p e s m args below meth c s₁ B hml hv
  obtain ⟨rfl, hP, hK, hD, hA, hN⟩ := hv
  have hx := B.exec
  have hb := B.bytes
  have hr := B.returns
  have hlocks := B.notSynchronized
  have hts : ∀ w ∈ wsU, w.before _ s = true := fun w h => atoms_spec (ws := us_X6_fault) B.pre w (List.mem_cons_of_mem _ h)
  have hown : s.vm.findClass RX6 = some m.cls := findClass_of_methodNamed B.named
  have hC : Cx p m c cX6_fault 2 s _ wsU RX6 D cy := ⟨⟨hx, hb, hml, hown, hts⟩, hK, hN⟩
  have hW : Wd D cy 55 shX ad A s.heap σ s.heap [] := ⟨hP, hD, va_S.rf, hA⟩
  have hl := lv_entry ([.ref (ad 0), .int p0]) (n := 2) (Nat.le_of_ble_eq_true rfl)
  rw [lg_entry_eq]
  generalize (lg_sl ([.ref (ad 0), .int p0]) ++ List.replicate (2 - (lg_sl ([.ref (ad 0), .int p0])).length) Slot.unset).toArray = ls at hl ⊢
  have hl : lv_has ls 2 [(0, .ref (ad 0)), (1, .int p0)] := hl
  refine lv_iload_n hx hb dX6_fault_0 rfl (lv_at hl 1 rfl) ?_
  refine lv_iconst (v := 0) hx hb dX6_fault_1 (by decide) ?_
  refine lv_iconst (v := 1) hx hb dX6_fault_2 (by decide) ?_
  replace h := bd h
  obtain ⟨r1, hc, h⟩ := h
  refine r_calli hW (va_runS (As := [.int p0, .int 0, .int 1]) (rest := []) hC.1 (c_X6_isWithin l D cy ad A _ _ _ _ _ hc) (va_cwS 3 hts (gdS wd_101 wd_102 wd_5 wd_100) rfl rfl rfl (by decide +kernel) ⟨Nat.le_of_ble_eq_true rfl, Nat.le_of_ble_eq_true rfl⟩) (r_preS hC hW) rfl rfl hl.1 rfl (lv_room (Nat.le_of_ble_eq_true rfl)) dX6_fault_3 ⟨Nat.zero_le _, Nat.zero_le _⟩) (fun H locs hWn => ?_)
  replace hW := hWn
  clear hWn hc
  refine lv_if_ne (tgt := 12) hx hb dX6_fault_6 (by decide) (fun cq => ?_) (fun cq => ?_)
  · replace h := tn cq h
    refine lv_iload_n hx hb dX6_fault_12 rfl (lv_at hl 1 rfl) ?_
    refine lv_if_ne (tgt := 36) hx hb dX6_fault_13 (by decide) (fun cq => ?_) (fun cq => ?_)
    · replace h := tn cq h
      refine lv_aload_n hx hb dX6_fault_36 rfl (lv_at hl 0 rfl) ?_
      refine r_getr hC hW 3 (Nat.le_of_ble_eq_true rfl) rfl rfl rfl (by decide) inUX6 (hts _ wd_182) rfl dX6_fault_37 ?_
      refine lv_aload_n hx hb dX6_fault_40 rfl (lv_at hl 0 rfl) ?_
      refine r_getr hC hW 0 (Nat.le_of_ble_eq_true rfl) rfl rfl rfl (by decide) inUX6 (hts _ wd_175) rfl dX6_fault_41 ?_
      refine r_getrN hC hW 0 (Nat.le_of_ble_eq_true rfl) rfl rfl rfl (by decide) inUX4 (hC.2.2.use nf_RX6_50 rfl) rfl dX6_fault_44 ?_
      refine r_getiN hC hW 0 (Nat.le_of_ble_eq_true rfl) rfl rfl rfl (by decide) inUX0 (hC.2.2.use nf_RX6_61 rfl) rfl dX6_fault_47 ?_
      replace h := bd h
      obtain ⟨r2, hc, h⟩ := h
      refine r_calli hW (va_runVN (As := [.int (σ 2 0)]) (rest := []) hC.1 (c_X3_weekFault l D cy ad A N _ _ _ hc) ⟨va_cnB 1 hts (gdN wd_164) rfl rfl rfl (NL.at hC.2.2 nw_RX6_113 rfl) (hts _ wd_104) (by decide +kernel) ⟨Nat.le_of_ble_eq_true rfl, Nat.le_of_ble_eq_true rfl⟩, hts _ wd_165, hts _ wd_166⟩ (r_preV hC hW (Nat.le_of_ble_eq_true rfl) rfl rfl) rfl rfl hl.1 rfl (lv_room (Nat.le_of_ble_eq_true rfl)) dX6_fault_50 ⟨Nat.zero_le _, Nat.zero_le _⟩) (fun H locs hWn => ?_)
      replace hW := hWn
      clear hWn hc
      exact r_iretP hC hr hlocks h hW dX6_fault_53
    · replace h := tp cq h
      refine lv_aload_n hx hb dX6_fault_16 rfl (lv_at hl 0 rfl) ?_
      refine r_getr hC hW 3 (Nat.le_of_ble_eq_true rfl) rfl rfl rfl (by decide) inUX6 (hts _ wd_182) rfl dX6_fault_17 ?_
      refine lv_aload_n hx hb dX6_fault_20 rfl (lv_at hl 0 rfl) ?_
      refine r_getr hC hW 0 (Nat.le_of_ble_eq_true rfl) rfl rfl rfl (by decide) inUX6 (hts _ wd_175) rfl dX6_fault_21 ?_
      refine r_getrN hC hW 0 (Nat.le_of_ble_eq_true rfl) rfl rfl rfl (by decide) inUX4 (hC.2.2.use nf_RX6_50 rfl) rfl dX6_fault_24 ?_
      refine r_getiN hC hW 0 (Nat.le_of_ble_eq_true rfl) rfl rfl rfl (by decide) inUX0 (hC.2.2.use nf_RX6_61 rfl) rfl dX6_fault_27 ?_
      replace h := bd h
      obtain ⟨r3, hc, h⟩ := h
      refine r_calli hW (va_runVN (As := [.int (σ 2 0)]) (rest := []) hC.1 (c_X3_orderFault l D cy ad A N _ _ _ hc) ⟨va_cnB 1 hts (gdN wd_223) rfl rfl rfl (NL.at hC.2.2 nw_RX6_109 rfl) (hts _ wd_104) (by decide +kernel) ⟨Nat.le_of_ble_eq_true rfl, Nat.le_of_ble_eq_true rfl⟩, hts _ wd_224, hts _ wd_225⟩ (r_preV hC hW (Nat.le_of_ble_eq_true rfl) rfl rfl) rfl rfl hl.1 rfl (lv_room (Nat.le_of_ble_eq_true rfl)) dX6_fault_30 ⟨Nat.zero_le _, Nat.zero_le _⟩) (fun H locs hWn => ?_)
      replace hW := hWn
      clear hWn hc
      refine lv_goto (tgt := 53) hx hb dX6_fault_33 (by decide) ?_
      exact r_iretP hC hr hlocks h hW dX6_fault_53
  · replace h := tp cq h
    refine lv_bipush (v := (-2)) hx hb dX6_fault_9 (by decide) ?_
    exact r_iretP hC hr hlocks h hW dX6_fault_11
set_option maxHeartbeats 4000000 in
set_option maxRecDepth 100000 in
theorem c_X6_firsts (l : Launch) (D : va_G) (cy : ClassId × ClassId) (ad : Nat → Nat) (A : Nat → Prop) (N : Nat) (σ : Hp) (r : Int32) (σ' : Hp) (h : t_X6_firsts N σ = some (r, σ')) : Ci l yX6_firsts us_X6_firsts ({ frames := 14, cells := 0, slots := 0, locals := 358 } : Room) D cy 55 shX ad A [.ref (ad 0)] σ r σ' := by
  unfold t_X6_firsts at h
  refine Met.ofW (cc := cX6_firsts) (maxL := 2) (ret := (some .int)) (by decide) rfl ?_
  intro p e s m args below meth c s₁ B hml hv
  obtain ⟨rfl, hP, hK, hD, hA, hN⟩ := hv
  have hx := B.exec
  have hb := B.bytes
  have hr := B.returns
  have hlocks := B.notSynchronized
  have hts : ∀ w ∈ wsU, w.before _ s = true := fun w h => atoms_spec (ws := us_X6_firsts) B.pre w (List.mem_cons_of_mem _ h)
  have hown : s.vm.findClass RX6 = some m.cls := findClass_of_methodNamed B.named
  have hC : Cx p m c cX6_firsts 2 s _ wsU RX6 D cy := ⟨⟨hx, hb, hml, hown, hts⟩, hK, hN⟩
  have hW : Wd D cy 55 shX ad A s.heap σ s.heap [] := ⟨hP, hD, va_S.rf, hA⟩
  have hl := lv_entry ([.ref (ad 0)]) (n := 2) (Nat.le_of_ble_eq_true rfl)
  rw [lg_entry_eq]
  generalize (lg_sl ([.ref (ad 0)]) ++ List.replicate (2 - (lg_sl ([.ref (ad 0)])).length) Slot.unset).toArray = ls at hl ⊢
  have hl : lv_has ls 2 [(0, .ref (ad 0))] := hl
  refine lv_aload_n hx hb dX6_firsts_0 rfl (lv_at hl 0 rfl) ?_
  replace h := ob h
  obtain ⟨r1, σ2, hc, h⟩ := h
  refine r_calli hW (va_runV (As := []) (rest := []) hC.1 (c_X6_findFitting l D cy ad A N _ _ _ hc) (cwV 0 hts (gdV wd_199 wd_200 wd_201 wd_5 wd_198) rfl rfl rfl (by decide +kernel) ⟨Nat.le_of_ble_eq_true rfl, Nat.le_of_ble_eq_true rfl⟩) (r_preV hC hW (Nat.le_of_ble_eq_true rfl) rfl rfl) rfl rfl hl.1 rfl (lv_room (Nat.le_of_ble_eq_true rfl)) dX6_firsts_1 ⟨Nat.zero_le _, Nat.zero_le _⟩) (fun H locs hWn => ?_)
  replace hW := hWn
  clear hWn hc
  refine lv_istore_n (lv' := [(1, .int r1), (0, .ref (ad 0))]) hx hb dX6_firsts_4 rfl hl (by decide) rfl (fun ls hln => ?_)
  replace hl := hln
  clear hln
  refine lv_iload_n hx hb dX6_firsts_5 rfl (lv_at hl 0 rfl) ?_
  refine lv_if_eq (tgt := 13) hx hb dX6_firsts_6 (by decide) (fun cq => ?_) (fun cq => ?_)
  · replace h := tp cq h
    refine lv_aload_n hx hb dX6_firsts_13 rfl (lv_at hl 1 rfl) ?_
    refine r_getr hC hW 5 (Nat.le_of_ble_eq_true rfl) rfl rfl rfl (by decide) inUX6 (hts _ wd_171) rfl dX6_firsts_14 ?_
    replace h := bd h
    obtain ⟨r3, hc, h⟩ := h
    refine r_calli hW (va_runVN (As := []) (rest := []) hC.1 (c_X1_eggsAtFirstPlace l D cy ad A N _ _ hc) ⟨va_cnB 0 hts (gdN wd_226) rfl rfl rfl (NL.at hC.2.2 nw_RX6_188 rfl) (hts _ wd_73) (by decide +kernel) ⟨Nat.le_of_ble_eq_true rfl, Nat.le_of_ble_eq_true rfl⟩, hts _ wd_227, hts _ wd_228⟩ (r_preV hC hW (Nat.le_of_ble_eq_true rfl) rfl rfl) rfl rfl hl.1 rfl (lv_room (Nat.le_of_ble_eq_true rfl)) dX6_firsts_17 ⟨Nat.zero_le _, Nat.zero_le _⟩) (fun H locs hWn => ?_)
    replace hW := hWn
    clear hWn hc
    exact r_iretW hC hr hlocks h hW dX6_firsts_20
  · replace h := tn cq h
    refine lv_iload_n hx hb dX6_firsts_9 rfl (lv_at hl 0 rfl) ?_
    refine lv_goto (tgt := 20) hx hb dX6_firsts_10 (by decide) ?_
    exact r_iretW hC hr hlocks h hW dX6_firsts_20
set_option maxHeartbeats 4000000 in
set_option maxRecDepth 100000 in
theorem c_X6_fits (l : Launch) (D : va_G) (cy : ClassId × ClassId) (ad : Nat → Nat) (A : Nat → Prop) (N : Nat) (p0 : Int32) (σ : Hp) (r : Int32) (σ' : Hp) (h : t_X6_fits N p0 σ = some (r, σ')) : Ci l yX6_fits us_X6_fits ({ frames := 14, cells := 0, slots := 0, locals := 358 } : Room) D cy 55 shX ad A [.ref (ad 0), .int p0] σ r σ' := by
  unfold t_X6_fits at h
  refine Met.ofW (cc := cX6_fits) (maxL := 3) (ret := (some .int)) (by decide) rfl ?_
  intro p e s m args below meth c s₁ B hml hv
  obtain ⟨rfl, hP, hK, hD, hA, hN⟩ := hv
  have hx := B.exec
  have hb := B.bytes
  have hr := B.returns
  have hlocks := B.notSynchronized
  have hts : ∀ w ∈ wsU, w.before _ s = true := fun w h => atoms_spec (ws := us_X6_fits) B.pre w (List.mem_cons_of_mem _ h)
  have hown : s.vm.findClass RX6 = some m.cls := findClass_of_methodNamed B.named
  have hC : Cx p m c cX6_fits 3 s _ wsU RX6 D cy := ⟨⟨hx, hb, hml, hown, hts⟩, hK, hN⟩
  have hW : Wd D cy 55 shX ad A s.heap σ s.heap [] := ⟨hP, hD, va_S.rf, hA⟩
  have hl := lv_entry ([.ref (ad 0), .int p0]) (n := 3) (Nat.le_of_ble_eq_true rfl)
  rw [lg_entry_eq]
  generalize (lg_sl ([.ref (ad 0), .int p0]) ++ List.replicate (3 - (lg_sl ([.ref (ad 0), .int p0])).length) Slot.unset).toArray = ls at hl ⊢
  have hl : lv_has ls 3 [(0, .ref (ad 0)), (1, .int p0)] := hl
  refine lv_aload_n hx hb dX6_fits_0 rfl (lv_at hl 0 rfl) ?_
  replace h := ob h
  obtain ⟨r1, σ2, hc, h⟩ := h
  refine r_calli hW (va_runV (As := []) (rest := []) hC.1 (c_X6_findFitting l D cy ad A N _ _ _ hc) (cwV 0 hts (gdV wd_199 wd_200 wd_201 wd_5 wd_198) rfl rfl rfl (by decide +kernel) ⟨Nat.le_of_ble_eq_true rfl, Nat.le_of_ble_eq_true rfl⟩) (r_preV hC hW (Nat.le_of_ble_eq_true rfl) rfl rfl) rfl rfl hl.1 rfl (lv_room (Nat.le_of_ble_eq_true rfl)) dX6_fits_1 ⟨Nat.zero_le _, Nat.zero_le _⟩) (fun H locs hWn => ?_)
  replace hW := hWn
  clear hWn hc
  refine lv_istore_n (lv' := [(2, .int r1), (0, .ref (ad 0)), (1, .int p0)]) hx hb dX6_fits_4 rfl hl (by decide) rfl (fun ls hln => ?_)
  replace hl := hln
  clear hln
  refine lv_iload_n hx hb dX6_fits_5 rfl (lv_at hl 0 rfl) ?_
  refine lv_if_eq (tgt := 11) hx hb dX6_fits_6 (by decide) (fun cq => ?_) (fun cq => ?_)
  · replace h := tp cq h
    refine lv_iload_n hx hb dX6_fits_11 rfl (lv_at hl 2 rfl) ?_
    refine lv_iconst (v := (-1)) hx hb dX6_fits_12 (by decide) ?_
    refine lv_icmp_ne (tgt := 24) hx hb dX6_fits_13 (by decide) (fun cq => ?_) (fun cq => ?_)
    · replace h := tn cq h
      refine lv_aload_n hx hb dX6_fits_24 rfl (lv_at hl 1 rfl) ?_
      refine r_getr hC hW 5 (Nat.le_of_ble_eq_true rfl) rfl rfl rfl (by decide) inUX6 (hts _ wd_171) rfl dX6_fits_25 ?_
      refine r_getiN hC hW 1 (Nat.le_of_ble_eq_true rfl) rfl rfl rfl (by decide) inUX1 (hC.2.2.use nf_RX6_179 rfl) rfl dX6_fits_28 ?_
      refine lv_if_eq (tgt := 54) hx hb dX6_fits_31 (by decide) (fun cq => ?_) (fun cq => ?_)
      · replace h := tp cq h
        refine lv_bipush (v := (-6)) hx hb dX6_fits_54 (by decide) ?_
        exact r_iretW hC hr hlocks h hW dX6_fits_56
      · replace h := tn cq h
        refine lv_iload_n hx hb dX6_fits_34 rfl (lv_at hl 2 rfl) ?_
        refine lv_iconst (v := 0) hx hb dX6_fits_35 (by decide) ?_
        refine lv_aload_n hx hb dX6_fits_36 rfl (lv_at hl 1 rfl) ?_
        refine r_getr hC hW 0 (Nat.le_of_ble_eq_true rfl) rfl rfl rfl (by decide) inUX6 (hts _ wd_175) rfl dX6_fits_37 ?_
        refine r_getrN hC hW 0 (Nat.le_of_ble_eq_true rfl) rfl rfl rfl (by decide) inUX4 (hC.2.2.use nf_RX6_50 rfl) rfl dX6_fits_40 ?_
        refine r_getiN hC hW 0 (Nat.le_of_ble_eq_true rfl) rfl rfl rfl (by decide) inUX0 (hC.2.2.use nf_RX6_61 rfl) rfl dX6_fits_43 ?_
        refine lv_iconst (v := 1) hx hb dX6_fits_46 (by decide) ?_
        refine lv_isub hx hb dX6_fits_47 ?_
        replace h := bd h
        obtain ⟨r3, hc, h⟩ := h
        refine r_calli hW (va_runS (As := [.int p0, .int 0, .int ((σ2 2 0) - 1)]) (rest := []) hC.1 (c_X6_isWithin l D cy ad A _ _ _ _ _ hc) (va_cwS 3 hts (gdS wd_101 wd_102 wd_5 wd_100) rfl rfl rfl (by decide +kernel) ⟨Nat.le_of_ble_eq_true rfl, Nat.le_of_ble_eq_true rfl⟩) (r_preS hC hW) rfl rfl hl.1 rfl (lv_room (Nat.le_of_ble_eq_true rfl)) dX6_fits_48 ⟨Nat.zero_le _, Nat.zero_le _⟩) (fun H locs hWn => ?_)
        replace hW := hWn
        clear hWn hc
        refine lv_if_ne (tgt := 57) hx hb dX6_fits_51 (by decide) (fun cq => ?_) (fun cq => ?_)
        · replace h := tn cq h
          refine lv_aload_n hx hb dX6_fits_57 rfl (lv_at hl 1 rfl) ?_
          refine r_getr hC hW 5 (Nat.le_of_ble_eq_true rfl) rfl rfl rfl (by decide) inUX6 (hts _ wd_171) rfl dX6_fits_58 ?_
          refine r_getrN hC hW 3 (Nat.le_of_ble_eq_true rfl) rfl rfl rfl (by decide) inUX1 (hC.2.2.use nf_RX6_182 rfl) rfl dX6_fits_61 ?_
          refine lv_iload_n hx hb dX6_fits_64 rfl (lv_at hl 2 rfl) ?_
          replace h := bd h
          obtain ⟨r4, hc, h⟩ := h
          refine r_calli hW (va_runS (As := [.ref (ad 40), .int p0]) (rest := []) hC.1 (c_X6_at l D cy ad A 40 7 ⟨Nat.le_of_ble_eq_true rfl, rfl⟩ _ _ _ hc) (va_cwS 2 hts (gdS wd_212 wd_6 wd_5 wd_4) rfl rfl rfl (by decide +kernel) ⟨Nat.le_of_ble_eq_true rfl, Nat.le_of_ble_eq_true rfl⟩) (r_preS hC hW) rfl rfl hl.1 rfl (lv_room (Nat.le_of_ble_eq_true rfl)) dX6_fits_65 ⟨Nat.zero_le _, Nat.zero_le _⟩) (fun H locs hWn => ?_)
          replace hW := hWn
          clear hWn hc
          exact r_iretW hC hr hlocks h hW dX6_fits_68
        · replace h := tp cq h
          refine lv_bipush (v := (-6)) hx hb dX6_fits_54 (by decide) ?_
          exact r_iretW hC hr hlocks h hW dX6_fits_56
    · replace h := tp cq h
      refine lv_aload_n hx hb dX6_fits_16 rfl (lv_at hl 1 rfl) ?_
      refine r_getr hC hW 5 (Nat.le_of_ble_eq_true rfl) rfl rfl rfl (by decide) inUX6 (hts _ wd_171) rfl dX6_fits_17 ?_
      refine r_getiN hC hW 1 (Nat.le_of_ble_eq_true rfl) rfl rfl rfl (by decide) inUX1 (hC.2.2.use nf_RX6_179 rfl) rfl dX6_fits_20 ?_
      exact r_iretW hC hr hlocks h hW dX6_fits_23
  · replace h := tn cq h
    refine lv_iload_n hx hb dX6_fits_9 rfl (lv_at hl 0 rfl) ?_
    exact r_iretW hC hr hlocks h hW dX6_fits_10
set_option maxHeartbeats 4000000 in
set_option maxRecDepth 100000 in
theorem c_X6_forget (l : Launch) (D : va_G) (cy : ClassId × ClassId) (ad : Nat → Nat) (A : Nat → Prop) (p0 : Int32) (σ : Hp) (r : Int32) (σ' : Hp) (h : t_X6_forget p0 σ = some (r, σ')) : Ci l yX6_forget us_X6_forget ({ frames := 1, cells := 0, slots := 0, locals := 22 } : Room) D cy 55 shX ad A [.ref (ad 0), .int p0] σ r σ' := by
  unfold t_X6_forget at h
  refine Met.ofW (cc := cX6_forget) (maxL := 3) (ret := (some .int)) (by decide) rfl ?_
  intro p e s m args below meth c s₁ B hml hv
  obtain ⟨rfl, hP, hK, hD, hA, hN⟩ := hv
  have hx := B.exec
  have hb := B.bytes
  have hr := B.returns
  have hlocks := B.notSynchronized
  have hts : ∀ w ∈ wsU, w.before _ s = true := fun w h => atoms_spec (ws := us_X6_forget) B.pre w (List.mem_cons_of_mem _ h)
  have hown : s.vm.findClass RX6 = some m.cls := findClass_of_methodNamed B.named
  have hC : Cx p m c cX6_forget 3 s _ wsU RX6 D cy := ⟨⟨hx, hb, hml, hown, hts⟩, hK, hN⟩
  have hW : Wd D cy 55 shX ad A s.heap σ s.heap [] := ⟨hP, hD, va_S.rf, hA⟩
  have hl := lv_entry ([.ref (ad 0), .int p0]) (n := 3) (Nat.le_of_ble_eq_true rfl)
  rw [lg_entry_eq]
  generalize (lg_sl ([.ref (ad 0), .int p0]) ++ List.replicate (3 - (lg_sl ([.ref (ad 0), .int p0])).length) Slot.unset).toArray = ls at hl ⊢
  have hl : lv_has ls 3 [(0, .ref (ad 0)), (1, .int p0)] := hl
  have J39 : ∀ (v1 : Int32) (s0 : Int32) (σ : Hp), t_X6_forget_39 v1 s0 σ = some (r, σ') → ∀ (H : Heap) (locs : List Loc), Wd D cy 55 shX ad A s.heap σ H locs → ∀ ls : Array Slot, lv_has ls 3 [(0, .ref (ad 0)), (1, .int v1)] → Gi p l e us_X6_forget ({ frames := 1, cells := 0, slots := 0, locals := 22 } : Room) s m [.ref (ad 0), .int p0] below meth c D cy 55 shX ad A r σ' H locs (F0 m 39 ls [.int s0]) := by
    intro v1 s0 σ h H locs hW ls hl
    unfold t_X6_forget_39 at h
    refine lv_istore_n (lv' := [(2, .int s0), (0, .ref (ad 0)), (1, .int v1)]) hx hb dX6_forget_39 rfl hl (by decide) rfl (fun ls hln => ?_)
    replace hl := hln
    clear hln
    refine lv_iload_n hx hb dX6_forget_40 rfl (lv_at hl 2 rfl) ?_
    refine lv_if_ne (tgt := 58) hx hb dX6_forget_41 (by decide) (fun cq => ?_) (fun cq => ?_)
    · replace h := tn cq h
      refine lv_aload_n hx hb dX6_forget_58 rfl (lv_at hl 1 rfl) ?_
      refine r_getr hC hW 0 (Nat.le_of_ble_eq_true rfl) rfl rfl rfl (by decide) inUX6 (hts _ wd_175) rfl dX6_forget_59 ?_
      refine r_getrN hC hW 1 (Nat.le_of_ble_eq_true rfl) rfl rfl rfl (by decide) inUX4 (hC.2.2.use nf_RX6_65 rfl) rfl dX6_forget_62 ?_
      refine lv_iconst (v := 0) hx hb dX6_forget_65 (by decide) ?_
      refine r_putN hC hW 1 (Nat.le_of_ble_eq_true rfl) rfl rfl rfl (by decide) inUX2 tyX2 tyX2_ok nmX2 (hC.2.2.use nf_RX6_74 rfl) rfl rfl ⟨rfl, rfl⟩ dX6_forget_66 (fun σ1 eσ1 H locs hWn => ?_)
      replace h := bn eσ1 h
      replace hW := hWn
      clear hWn eσ1
      refine lv_iload_n hx hb dX6_forget_69 rfl (lv_at hl 0 rfl) ?_
      exact r_iretW hC hr hlocks h hW dX6_forget_70
    · replace h := tp cq h
      refine lv_aload_n hx hb dX6_forget_44 rfl (lv_at hl 1 rfl) ?_
      refine r_getr hC hW 0 (Nat.le_of_ble_eq_true rfl) rfl rfl rfl (by decide) inUX6 (hts _ wd_175) rfl dX6_forget_45 ?_
      refine r_getrN hC hW 1 (Nat.le_of_ble_eq_true rfl) rfl rfl rfl (by decide) inUX4 (hC.2.2.use nf_RX6_65 rfl) rfl dX6_forget_48 ?_
      refine lv_iconst (v := 0) hx hb dX6_forget_51 (by decide) ?_
      refine r_putN hC hW 0 (Nat.le_of_ble_eq_true rfl) rfl rfl rfl (by decide) inUX2 tyX2 tyX2_ok nmX2 (hC.2.2.use nf_RX6_69 rfl) rfl rfl ⟨rfl, rfl⟩ dX6_forget_52 (fun σ2 eσ2 H locs hWn => ?_)
      replace h := bn eσ2 h
      replace hW := hWn
      clear hWn eσ2
      refine lv_goto (tgt := 69) hx hb dX6_forget_55 (by decide) ?_
      refine lv_iload_n hx hb dX6_forget_69 rfl (lv_at hl 0 rfl) ?_
      exact r_iretW hC hr hlocks h hW dX6_forget_70
  refine lv_iload_n hx hb dX6_forget_0 rfl (lv_at hl 1 rfl) ?_
  refine lv_iconst (v := 0) hx hb dX6_forget_1 (by decide) ?_
  refine lv_iconst (v := 1) hx hb dX6_forget_2 (by decide) ?_
  replace h := bd h
  obtain ⟨r3, hc, h⟩ := h
  refine r_calli hW (va_runS (As := [.int p0, .int 0, .int 1]) (rest := []) hC.1 (c_X6_isWithin l D cy ad A _ _ _ _ _ hc) (va_cwS 3 hts (gdS wd_101 wd_102 wd_5 wd_100) rfl rfl rfl (by decide +kernel) ⟨Nat.le_of_ble_eq_true rfl, Nat.le_of_ble_eq_true rfl⟩) (r_preS hC hW) rfl rfl hl.1 rfl (lv_room (Nat.le_of_ble_eq_true rfl)) dX6_forget_3 ⟨Nat.zero_le _, Nat.zero_le _⟩) (fun H locs hWn => ?_)
  replace hW := hWn
  clear hWn hc
  refine lv_if_ne (tgt := 12) hx hb dX6_forget_6 (by decide) (fun cq => ?_) (fun cq => ?_)
  · replace h := tn cq h
    refine lv_iload_n hx hb dX6_forget_12 rfl (lv_at hl 1 rfl) ?_
    refine lv_if_ne (tgt := 29) hx hb dX6_forget_13 (by decide) (fun cq => ?_) (fun cq => ?_)
    · replace h := tn cq h
      refine lv_aload_n hx hb dX6_forget_29 rfl (lv_at hl 0 rfl) ?_
      refine r_getr hC hW 0 (Nat.le_of_ble_eq_true rfl) rfl rfl rfl (by decide) inUX6 (hts _ wd_175) rfl dX6_forget_30 ?_
      refine r_getrN hC hW 1 (Nat.le_of_ble_eq_true rfl) rfl rfl rfl (by decide) inUX4 (hC.2.2.use nf_RX6_65 rfl) rfl dX6_forget_33 ?_
      refine r_getiN hC hW 1 (Nat.le_of_ble_eq_true rfl) rfl rfl rfl (by decide) inUX2 (hC.2.2.use nf_RX6_74 rfl) rfl dX6_forget_36 ?_
      exact J39 _ _ _ h _ _ hW _ (lv_sub hl [0, 1] rfl)
    · replace h := tp cq h
      refine lv_aload_n hx hb dX6_forget_16 rfl (lv_at hl 0 rfl) ?_
      refine r_getr hC hW 0 (Nat.le_of_ble_eq_true rfl) rfl rfl rfl (by decide) inUX6 (hts _ wd_175) rfl dX6_forget_17 ?_
      refine r_getrN hC hW 1 (Nat.le_of_ble_eq_true rfl) rfl rfl rfl (by decide) inUX4 (hC.2.2.use nf_RX6_65 rfl) rfl dX6_forget_20 ?_
      refine r_getiN hC hW 0 (Nat.le_of_ble_eq_true rfl) rfl rfl rfl (by decide) inUX2 (hC.2.2.use nf_RX6_69 rfl) rfl dX6_forget_23 ?_
      refine lv_goto (tgt := 39) hx hb dX6_forget_26 (by decide) ?_
      exact J39 _ _ _ h _ _ hW _ (lv_sub hl [0, 1] rfl)
  · replace h := tp cq h
    refine lv_bipush (v := (-2)) hx hb dX6_forget_9 (by decide) ?_
    exact r_iretW hC hr hlocks h hW dX6_forget_11
set_option maxHeartbeats 4000000 in
set_option maxRecDepth 100000 in
theorem c_X6_gainOf (l : Launch) (D : va_G) (cy : ClassId × ClassId) (ad : Nat → Nat) (A : Nat → Prop) (N : Nat) (p0 : Int32) (p1 : Int32) (p2 : Int32) (σ : Hp) (r : Int32) (h : t_X6_gainOf N p0 p1 p2 σ = some r) : Ci l yX6_gainOf us_X6_gainOf ({ frames := 3, cells := 0, slots := 0, locals := 69 } : Room) D cy 55 shX ad A [.ref (ad 0), .int p0, .int p1, .int p2] σ r σ := by
  unfold t_X6_gainOf at h
  refine Met.ofW (cc := cX6_gainOf) (maxL := 5) (ret := (some .int)) (by decide) rfl ?_
  intro p e s m args below meth c s₁ B hml hv
  obtain ⟨rfl, hP, hK, hD, hA, hN⟩ := hv
  have hx := B.exec
  have hb := B.bytes
  have hr := B.returns
  have hlocks := B.notSynchronized
  have hts : ∀ w ∈ wsU, w.before _ s = true := fun w h => atoms_spec (ws := us_X6_gainOf) B.pre w (List.mem_cons_of_mem _ h)
  have hown : s.vm.findClass RX6 = some m.cls := findClass_of_methodNamed B.named
  have hC : Cx p m c cX6_gainOf 5 s _ wsU RX6 D cy := ⟨⟨hx, hb, hml, hown, hts⟩, hK, hN⟩
  have hW : Wd D cy 55 shX ad A s.heap σ s.heap [] := ⟨hP, hD, va_S.rf, hA⟩
  have hl := lv_entry ([.ref (ad 0), .int p0, .int p1, .int p2]) (n := 5) (Nat.le_of_ble_eq_true rfl)
  rw [lg_entry_eq]
  generalize (lg_sl ([.ref (ad 0), .int p0, .int p1, .int p2]) ++ List.replicate (5 - (lg_sl ([.ref (ad 0), .int p0, .int p1, .int p2])).length) Slot.unset).toArray = ls at hl ⊢
  have hl : lv_has ls 5 [(0, .ref (ad 0)), (1, .int p0), (2, .int p1), (3, .int p2)] := hl
  refine lv_aload_n hx hb dX6_gainOf_0 rfl (lv_at hl 0 rfl) ?_
  refine r_getr hC hW 0 (Nat.le_of_ble_eq_true rfl) rfl rfl rfl (by decide) inUX6 (hts _ wd_175) rfl dX6_gainOf_1 ?_
  refine r_getrN hC hW 0 (Nat.le_of_ble_eq_true rfl) rfl rfl rfl (by decide) inUX4 (hC.2.2.use nf_RX6_50 rfl) rfl dX6_gainOf_4 ?_
  refine lv_aload_n hx hb dX6_gainOf_7 rfl (lv_at hl 0 rfl) ?_
  refine r_getr hC hW 0 (Nat.le_of_ble_eq_true rfl) rfl rfl rfl (by decide) inUX6 (hts _ wd_175) rfl dX6_gainOf_8 ?_
  refine r_getrN hC hW 0 (Nat.le_of_ble_eq_true rfl) rfl rfl rfl (by decide) inUX4 (hC.2.2.use nf_RX6_50 rfl) rfl dX6_gainOf_11 ?_
  refine lv_iload_n hx hb dX6_gainOf_14 rfl (lv_at hl 2 rfl) ?_
  replace h := bd h
  obtain ⟨r1, hc, h⟩ := h
  refine r_calli hW (va_runVN (As := [.int p1]) (rest := [.ref (ad 2)]) hC.1 (c_X0_hatchingIfHeated l D cy ad A N 2 (c_coop 2 rfl) _ _ _ hc) ⟨va_cnB 1 hts (gdN wd_47) rfl rfl rfl (NL.at hC.2.2 nw_RX6_281 rfl) (hts _ wd_12) (by decide +kernel) ⟨Nat.le_of_ble_eq_true rfl, Nat.le_of_ble_eq_true rfl⟩, hts _ wd_49, hts _ wd_50⟩ (r_preV hC hW (Nat.le_of_ble_eq_true rfl) rfl rfl) rfl rfl hl.1 rfl (lv_room (Nat.le_of_ble_eq_true rfl)) dX6_gainOf_15 ⟨Nat.zero_le _, Nat.zero_le _⟩) (fun H locs hWn => ?_)
  replace hW := hWn
  clear hWn hc
  refine lv_iload_n hx hb dX6_gainOf_18 rfl (lv_at hl 1 rfl) ?_
  replace h := bd h
  obtain ⟨r2, hc, h⟩ := h
  refine r_calli hW (va_runS (As := [.int p0]) (rest := [.int r1, .ref (ad 2)]) hC.1 (c_X6_bit l D cy ad A _ _ _ hc) (va_cwS 1 hts (gdS wd_229 wd_26 wd_5 wd_25) rfl rfl rfl (by decide +kernel) ⟨Nat.le_of_ble_eq_true rfl, Nat.le_of_ble_eq_true rfl⟩) (r_preS hC hW) rfl rfl hl.1 rfl (lv_room (Nat.le_of_ble_eq_true rfl)) dX6_gainOf_19 ⟨Nat.zero_le _, Nat.zero_le _⟩) (fun H locs hWn => ?_)
  replace hW := hWn
  clear hWn hc
  replace h := bd h
  obtain ⟨r3, hc, h⟩ := h
  refine r_calli hW (va_runVN (As := [.int r1, .int r2]) (rest := []) hC.1 (c_X0_worthOf l D cy ad A N 2 (c_coop 2 rfl) _ _ _ _ hc) ⟨va_cnB 2 hts (gdN wd_230) rfl rfl rfl (NL.at hC.2.2 nw_RX6_284 rfl) (hts _ wd_12) (by decide +kernel) ⟨Nat.le_of_ble_eq_true rfl, Nat.le_of_ble_eq_true rfl⟩, hts _ wd_231, hts _ wd_232⟩ (r_preV hC hW (Nat.le_of_ble_eq_true rfl) rfl rfl) rfl rfl hl.1 rfl (lv_room (Nat.le_of_ble_eq_true rfl)) dX6_gainOf_22 ⟨Nat.zero_le _, Nat.zero_le _⟩) (fun H locs hWn => ?_)
  replace hW := hWn
  clear hWn hc
  refine lv_istore (lv' := [(4, .int r3), (0, .ref (ad 0)), (1, .int p0), (2, .int p1), (3, .int p2)]) hx hb dX6_gainOf_25 hl (by decide) rfl (fun ls hln => ?_)
  replace hl := hln
  clear hln
  refine lv_iload_n hx hb dX6_gainOf_27 rfl (lv_at hl 3 rfl) ?_
  refine lv_iload_n hx hb dX6_gainOf_28 rfl (lv_at hl 2 rfl) ?_
  replace h := bd h
  obtain ⟨r4, hc, h⟩ := h
  refine r_calli hW (va_runS (As := [.int p1, .int p0]) (rest := []) hC.1 (c_X6_hasBit l D cy ad A _ _ _ _ hc) (va_cwS 2 hts (gdS wd_213 wd_32 wd_5 wd_31) rfl rfl rfl (by decide +kernel) ⟨Nat.le_of_ble_eq_true rfl, Nat.le_of_ble_eq_true rfl⟩) (r_preS hC hW) rfl rfl hl.1 rfl (lv_room (Nat.le_of_ble_eq_true rfl)) dX6_gainOf_29 ⟨Nat.zero_le _, Nat.zero_le _⟩) (fun H locs hWn => ?_)
  replace hW := hWn
  clear hWn hc
  refine lv_if_eq (tgt := 42) hx hb dX6_gainOf_32 (by decide) (fun cq => ?_) (fun cq => ?_)
  · replace h := tp cq h
    refine lv_iload hx hb dX6_gainOf_42 (lv_at hl 0 rfl) ?_
    exact r_iretP hC hr hlocks h hW dX6_gainOf_44
  · replace h := tn cq h
    refine lv_iload hx hb dX6_gainOf_35 (lv_at hl 0 rfl) ?_
    refine lv_iload_n hx hb dX6_gainOf_37 rfl (lv_at hl 4 rfl) ?_
    refine lv_isub hx hb dX6_gainOf_38 ?_
    refine lv_goto (tgt := 44) hx hb dX6_gainOf_39 (by decide) ?_
    exact r_iretP hC hr hlocks h hW dX6_gainOf_44
set_option maxHeartbeats 4000000 in
set_option maxRecDepth 100000 in
theorem c_X6_hatched (l : Launch) (D : va_G) (cy : ClassId × ClassId) (ad : Nat → Nat) (A : Nat → Prop) (N : Nat) (p0 : Int32) (σ : Hp) (r : Int32) (σ' : Hp) (h : t_X6_hatched N p0 σ = some (r, σ')) : Ci l yX6_hatched us_X6_hatched ({ frames := 6, cells := 0, slots := 0, locals := 137 } : Room) D cy 55 shX ad A [.ref (ad 0), .int p0] σ r σ' := by
  unfold t_X6_hatched at h
  refine Met.ofW (cc := cX6_hatched) (maxL := 3) (ret := (some .int)) (by decide) rfl ?_
  intro p e s m args below meth c s₁ B hml hv
  obtain ⟨rfl, hP, hK, hD, hA, hN⟩ := hv
  have hx := B.exec
  have hb := B.bytes
  have hr := B.returns
  have hlocks := B.notSynchronized
  have hts : ∀ w ∈ wsU, w.before _ s = true := fun w h => atoms_spec (ws := us_X6_hatched) B.pre w (List.mem_cons_of_mem _ h)
  have hown : s.vm.findClass RX6 = some m.cls := findClass_of_methodNamed B.named
  have hC : Cx p m c cX6_hatched 3 s _ wsU RX6 D cy := ⟨⟨hx, hb, hml, hown, hts⟩, hK, hN⟩
  have hW : Wd D cy 55 shX ad A s.heap σ s.heap [] := ⟨hP, hD, va_S.rf, hA⟩
  have hl := lv_entry ([.ref (ad 0), .int p0]) (n := 3) (Nat.le_of_ble_eq_true rfl)
  rw [lg_entry_eq]
  generalize (lg_sl ([.ref (ad 0), .int p0]) ++ List.replicate (3 - (lg_sl ([.ref (ad 0), .int p0])).length) Slot.unset).toArray = ls at hl ⊢
  have hl : lv_has ls 3 [(0, .ref (ad 0)), (1, .int p0)] := hl
  refine lv_aload_n hx hb dX6_hatched_0 rfl (lv_at hl 0 rfl) ?_
  refine r_getr hC hW 0 (Nat.le_of_ble_eq_true rfl) rfl rfl rfl (by decide) inUX6 (hts _ wd_175) rfl dX6_hatched_1 ?_
  refine r_getrN hC hW 0 (Nat.le_of_ble_eq_true rfl) rfl rfl rfl (by decide) inUX4 (hC.2.2.use nf_RX6_50 rfl) rfl dX6_hatched_4 ?_
  refine lv_iload_n hx hb dX6_hatched_7 rfl (lv_at hl 1 rfl) ?_
  replace h := bd h
  obtain ⟨r1, hc, h⟩ := h
  refine r_calli hW (va_runVN (As := [.int p0]) (rest := []) hC.1 (c_X0_has l D cy ad A 2 (c_coop 2 rfl) _ _ _ hc) ⟨va_cnB 1 hts (gdN wd_202) rfl rfl rfl (NL.at hC.2.2 nw_RX6_77 rfl) (hts _ wd_12) (by decide +kernel) ⟨Nat.le_of_ble_eq_true rfl, Nat.le_of_ble_eq_true rfl⟩, hts _ wd_203, hts _ wd_204⟩ (r_preV hC hW (Nat.le_of_ble_eq_true rfl) rfl rfl) rfl rfl hl.1 rfl (lv_room (Nat.le_of_ble_eq_true rfl)) dX6_hatched_8 ⟨Nat.zero_le _, Nat.zero_le _⟩) (fun H locs hWn => ?_)
  replace hW := hWn
  clear hWn hc
  refine lv_if_ne (tgt := 16) hx hb dX6_hatched_11 (by decide) (fun cq => ?_) (fun cq => ?_)
  · replace h := tn cq h
    refine lv_aload_n hx hb dX6_hatched_16 rfl (lv_at hl 0 rfl) ?_
    refine r_getr hC hW 4 (Nat.le_of_ble_eq_true rfl) rfl rfl rfl (by decide) inUX6 (hts _ wd_205) rfl dX6_hatched_17 ?_
    refine lv_aload_n hx hb dX6_hatched_20 rfl (lv_at hl 0 rfl) ?_
    refine r_getr hC hW 3 (Nat.le_of_ble_eq_true rfl) rfl rfl rfl (by decide) inUX6 (hts _ wd_182) rfl dX6_hatched_21 ?_
    refine lv_aload_n hx hb dX6_hatched_24 rfl (lv_at hl 0 rfl) ?_
    refine r_getr hC hW 0 (Nat.le_of_ble_eq_true rfl) rfl rfl rfl (by decide) inUX6 (hts _ wd_175) rfl dX6_hatched_25 ?_
    refine r_getrN hC hW 0 (Nat.le_of_ble_eq_true rfl) rfl rfl rfl (by decide) inUX4 (hC.2.2.use nf_RX6_50 rfl) rfl dX6_hatched_28 ?_
    replace h := ob h
    obtain ⟨r2, σ3, hc, h⟩ := h
    refine r_calli hW (va_runVN (As := [.ref (ad 31), .ref (ad 2)]) (rest := []) hC.1 (c_X5_run l D cy ad A N _ _ _ hc) ⟨va_cnB 2 hts (gdN wd_206) rfl rfl rfl (NL.at hC.2.2 nw_RX6_131 rfl) (hts _ wd_159) (by decide +kernel) ⟨Nat.le_of_ble_eq_true rfl, Nat.le_of_ble_eq_true rfl⟩, hts _ wd_207, hts _ wd_208⟩ (r_preV hC hW (Nat.le_of_ble_eq_true rfl) rfl rfl) rfl rfl hl.1 rfl (lv_room (Nat.le_of_ble_eq_true rfl)) dX6_hatched_31 ⟨Nat.zero_le _, Nat.zero_le _⟩) (fun H locs hWn => ?_)
    replace hW := hWn
    clear hWn hc
    refine lv_istore_n (lv' := [(2, .int r2), (0, .ref (ad 0)), (1, .int p0)]) hx hb dX6_hatched_34 rfl hl (by decide) rfl (fun ls hln => ?_)
    replace hl := hln
    clear hln
    refine lv_iload_n hx hb dX6_hatched_35 rfl (lv_at hl 0 rfl) ?_
    refine lv_if_eq (tgt := 43) hx hb dX6_hatched_36 (by decide) (fun cq => ?_) (fun cq => ?_)
    · replace h := tp cq h
      refine lv_aload_n hx hb dX6_hatched_43 rfl (lv_at hl 1 rfl) ?_
      refine r_getr hC hW 4 (Nat.le_of_ble_eq_true rfl) rfl rfl rfl (by decide) inUX6 (hts _ wd_205) rfl dX6_hatched_44 ?_
      refine r_getrN hC hW 1 (Nat.le_of_ble_eq_true rfl) rfl rfl rfl (by decide) inUX5 (hC.2.2.use nf_RX6_151 rfl) rfl dX6_hatched_47 ?_
      refine lv_iload_n hx hb dX6_hatched_50 rfl (lv_at hl 2 rfl) ?_
      replace h := bd h
      obtain ⟨r4, hc, h⟩ := h
      refine r_calli hW (va_runS (As := [.ref (ad 37), .int p0]) (rest := []) hC.1 (c_X6_at l D cy ad A 37 7 ⟨Nat.le_of_ble_eq_true rfl, rfl⟩ _ _ _ hc) (va_cwS 2 hts (gdS wd_212 wd_6 wd_5 wd_4) rfl rfl rfl (by decide +kernel) ⟨Nat.le_of_ble_eq_true rfl, Nat.le_of_ble_eq_true rfl⟩) (r_preS hC hW) rfl rfl hl.1 rfl (lv_room (Nat.le_of_ble_eq_true rfl)) dX6_hatched_51 ⟨Nat.zero_le _, Nat.zero_le _⟩) (fun H locs hWn => ?_)
      replace hW := hWn
      clear hWn hc
      exact r_iretW hC hr hlocks h hW dX6_hatched_54
    · replace h := tn cq h
      refine lv_iload_n hx hb dX6_hatched_39 rfl (lv_at hl 0 rfl) ?_
      refine lv_goto (tgt := 54) hx hb dX6_hatched_40 (by decide) ?_
      exact r_iretW hC hr hlocks h hW dX6_hatched_54
  · replace h := tp cq h
    refine lv_iconst (v := (-1)) hx hb dX6_hatched_14 (by decide) ?_
    exact r_iretW hC hr hlocks h hW dX6_hatched_15
set_option maxHeartbeats 4000000 in
set_option maxRecDepth 100000 in
theorem c_X6_lowest (l : Launch) (D : va_G) (cy : ClassId × ClassId) (ad : Nat → Nat) (A : Nat → Prop) (N : Nat) (p0 : Int64) (p1 : Int64) (p2 : Int32) (σ : Hp) (r : Int64) (h : t_X6_lowest N p0 p1 p2 = some r) : Cl l yX6_lowest us_X6_lowest ({ frames := 1, cells := 0, slots := 0, locals := 26 } : Room) D cy 55 shX ad A [.long p0, .long p1, .int p2] σ r σ := by
  unfold t_X6_lowest at h
  refine Met.ofW (cc := cX6_lowest) (maxL := 7) (ret := (some .long)) (by decide) rfl ?_
  intro p e s m args below meth c s₁ B hml hv
  obtain ⟨rfl, hP, hK, hD, hA, hN⟩ := hv
  have hx := B.exec
  have hb := B.bytes
  have hr := B.returns
  have hlocks := B.notSynchronized
  have hts : ∀ w ∈ wsU, w.before _ s = true := fun w h => atoms_spec (ws := us_X6_lowest) B.pre w (List.mem_cons_of_mem _ h)
  have hown : s.vm.findClass RX6 = some m.cls := findClass_of_methodNamed B.named
  have hC : Cx p m c cX6_lowest 7 s _ wsU RX6 D cy := ⟨⟨hx, hb, hml, hown, hts⟩, hK, hN⟩
  have hW : Wd D cy 55 shX ad A s.heap σ s.heap [] := ⟨hP, hD, va_S.rf, hA⟩
  have hl := lv_entry ([.long p0, .long p1, .int p2]) (n := 7) (Nat.le_of_ble_eq_true rfl)
  rw [lg_entry_eq]
  generalize (lg_sl ([.long p0, .long p1, .int p2]) ++ List.replicate (7 - (lg_sl ([.long p0, .long p1, .int p2])).length) Slot.unset).toArray = ls at hl ⊢
  have hl : lv_has ls 7 [(0, .long p0), (2, .long p1), (4, .int p2)] := hl
  refine lv_lload_n hx hb dX6_lowest_0 rfl (lv_at hl 0 rfl) ?_
  refine lv_lload_n hx hb dX6_lowest_1 rfl (lv_at hl 1 rfl) ?_
  replace h := bd h
  obtain ⟨r1, hc, h⟩ := h
  refine r_calll hW (va_runS (As := [.long p0, .long p1]) (rest := []) hC.1 (c_X6_commonDivisor l D cy ad A N _ _ _ _ hc) (va_cwS 2 hts (gdS wd_234 wd_235 wd_5 wd_233) rfl rfl rfl (by decide +kernel) ⟨Nat.le_of_ble_eq_true rfl, Nat.le_of_ble_eq_true rfl⟩) (r_preS hC hW) rfl rfl hl.1 rfl (lv_room (Nat.le_of_ble_eq_true rfl)) dX6_lowest_2 ⟨Nat.zero_le _, Nat.zero_le _⟩) (fun H locs hWn => ?_)
  replace hW := hWn
  clear hWn hc
  refine lv_lstore (lv' := [(5, .long r1), (0, .long p0), (2, .long p1), (4, .int p2)]) hx hb dX6_lowest_5 hl (by decide) rfl (fun ls hln => ?_)
  replace hl := hln
  clear hln
  refine lv_lload hx hb dX6_lowest_7 (lv_at hl 0 rfl) ?_
  refine lv_lconst (v := 0) hx hb dX6_lowest_9 (by decide) ?_
  refine W.lcmp hx hb dX6_lowest_10 ?_
  refine lv_if_ne (tgt := 16) hx hb dX6_lowest_11 (by decide) (fun cq => ?_) (fun cq => ?_)
  · replace h := tn cq h
    refine lv_iload hx hb dX6_lowest_16 (lv_at hl 3 rfl) ?_
    refine lv_if_ne (tgt := 25) hx hb dX6_lowest_18 (by decide) (fun cq => ?_) (fun cq => ?_)
    · replace h := tn cq h
      refine lv_lload_n hx hb dX6_lowest_25 rfl (lv_at hl 2 rfl) ?_
      refine lv_lload hx hb dX6_lowest_26 (lv_at hl 0 rfl) ?_
      replace h := ol h
      obtain ⟨hnz, h⟩ := h
      refine lv_ldiv hx hb dX6_lowest_28 hnz ?_
      exact r_lretP hC hr hlocks h hW dX6_lowest_29
    · replace h := tp cq h
      refine lv_lload_n hx hb dX6_lowest_21 rfl (lv_at hl 1 rfl) ?_
      refine lv_goto (tgt := 26) hx hb dX6_lowest_22 (by decide) ?_
      refine lv_lload hx hb dX6_lowest_26 (lv_at hl 0 rfl) ?_
      replace h := ol h
      obtain ⟨hnz, h⟩ := h
      refine lv_ldiv hx hb dX6_lowest_28 hnz ?_
      exact r_lretP hC hr hlocks h hW dX6_lowest_29
  · replace h := tp cq h
    refine lv_lconst (v := 0) hx hb dX6_lowest_14 (by decide) ?_
    exact r_lretP hC hr hlocks h hW dX6_lowest_15
set_option maxHeartbeats 4000000 in
set_option maxRecDepth 100000 in
theorem c_X6_hope (l : Launch) (D : va_G) (cy : ClassId × ClassId) (ad : Nat → Nat) (A : Nat → Prop) (N : Nat) (p0 : Int32) (p1 : Int32) (p2 : Int32) (σ : Hp) (r : Int64) (h : t_X6_hope N p0 p1 p2 σ = some r) : Cl l yX6_hope us_X6_hope ({ frames := 3, cells := 0, slots := 0, locals := 66 } : Room) D cy 55 shX ad A [.ref (ad 0), .int p0, .int p1, .int p2] σ r σ := by
  unfold t_X6_hope at h
  refine Met.ofW (cc := cX6_hope) (maxL := 13) (ret := (some .long)) (by decide) rfl ?_
  intro p e s m args below meth c s₁ B hml hv
  obtain ⟨rfl, hP, hK, hD, hA, hN⟩ := hv
  have hx := B.exec
  have hb := B.bytes
  have hr := B.returns
  have hlocks := B.notSynchronized
  have hts : ∀ w ∈ wsU, w.before _ s = true := fun w h => atoms_spec (ws := us_X6_hope) B.pre w (List.mem_cons_of_mem _ h)
  have hown : s.vm.findClass RX6 = some m.cls := findClass_of_methodNamed B.named
  have hC : Cx p m c cX6_hope 13 s _ wsU RX6 D cy := ⟨⟨hx, hb, hml, hown, hts⟩, hK, hN⟩
  have hW : Wd D cy 55 shX ad A s.heap σ s.heap [] := ⟨hP, hD, va_S.rf, hA⟩
  have hl := lv_entry ([.ref (ad 0), .int p0, .int p1, .int p2]) (n := 13) (Nat.le_of_ble_eq_true rfl)
  rw [lg_entry_eq]
  generalize (lg_sl ([.ref (ad 0), .int p0, .int p1, .int p2]) ++ List.replicate (13 - (lg_sl ([.ref (ad 0), .int p0, .int p1, .int p2])).length) Slot.unset).toArray = ls at hl ⊢
  have hl : lv_has ls 13 [(0, .ref (ad 0)), (1, .int p0), (2, .int p1), (3, .int p2)] := hl
  have J143 : ∀ (v3 : Int32) (v6 : Int64) (s0 : Int64), t_X6_hope_143 N v3 v6 s0 σ = some r → ∀ (H : Heap) (locs : List Loc), Wd D cy 55 shX ad A s.heap σ H locs → ∀ ls : Array Slot, lv_has ls 13 [(3, .int v3), (6, .long v6)] → Gl p l e us_X6_hope ({ frames := 3, cells := 0, slots := 0, locals := 66 } : Room) s m [.ref (ad 0), .int p0, .int p1, .int p2] below meth c D cy 55 shX ad A r σ H locs (F0 m 143 ls [.long s0]) := by
    intro v3 v6 s0 h H locs hW ls hl
    unfold t_X6_hope_143 at h
    refine lv_lload hx hb dX6_hope_143 (lv_at hl 1 rfl) ?_
    refine lv_iload_n hx hb dX6_hope_145 rfl (lv_at hl 0 rfl) ?_
    replace h := bd h
    obtain ⟨r1, hc, h⟩ := h
    refine r_calll hW (va_runS (As := [.long s0, .long v6, .int v3]) (rest := []) hC.1 (c_X6_lowest l D cy ad A N _ _ _ _ _ hc) (va_cwS 3 hts (gdS wd_237 wd_238 wd_5 wd_236) rfl rfl rfl (by decide +kernel) ⟨Nat.le_of_ble_eq_true rfl, Nat.le_of_ble_eq_true rfl⟩) (r_preS hC hW) rfl rfl hl.1 rfl (lv_room (Nat.le_of_ble_eq_true rfl)) dX6_hope_146 ⟨Nat.zero_le _, Nat.zero_le _⟩) (fun H locs hWn => ?_)
    replace hW := hWn
    clear hWn hc
    exact r_lretP hC hr hlocks h hW dX6_hope_149
  have J117 : ∀ (v2 : Int32) (v3 : Int32) (v4 : Int32) (v5 : Int32) (v6 : Int64) (v8 : Int64) (v10 : Int64), t_X6_hope_117 N v2 v3 v4 v5 v6 v8 v10 σ = some r → ∀ (H : Heap) (locs : List Loc), Wd D cy 55 shX ad A s.heap σ H locs → ∀ ls : Array Slot, lv_has ls 13 [(2, .int v2), (3, .int v3), (4, .int v4), (5, .int v5), (6, .long v6), (8, .long v8), (10, .long v10)] → Gl p l e us_X6_hope ({ frames := 3, cells := 0, slots := 0, locals := 66 } : Room) s m [.ref (ad 0), .int p0, .int p1, .int p2] below meth c D cy 55 shX ad A r σ H locs (F0 m 117 ls []) := by
    intro v2 v3 v4 v5 v6 v8 v10 h H locs hW ls hl
    unfold t_X6_hope_117 at h
    refine lv_iload_n hx hb dX6_hope_117 rfl (lv_at hl 0 rfl) ?_
    refine lv_if_ne (tgt := 130) hx hb dX6_hope_118 (by decide) (fun cq => ?_) (fun cq => ?_)
    · replace h := tn cq h
      refine lv_iload hx hb dX6_hope_130 (lv_at hl 3 rfl) ?_
      refine lv_iload hx hb dX6_hope_132 (lv_at hl 2 rfl) ?_
      refine lv_icmp_ne (tgt := 142) hx hb dX6_hope_134 (by decide) (fun cq => ?_) (fun cq => ?_)
      · replace h := tn cq h
        refine lv_lconst (v := 0) hx hb dX6_hope_142 (by decide) ?_
        exact J143 _ _ _ h _ _ hW _ (lv_sub hl [1, 4] rfl)
      · replace h := tp cq h
        refine lv_lload hx hb dX6_hope_137 (lv_at hl 5 rfl) ?_
        refine lv_goto (tgt := 143) hx hb dX6_hope_139 (by decide) ?_
        exact J143 _ _ _ h _ _ hW _ (lv_sub hl [1, 4] rfl)
    · replace h := tp cq h
      refine lv_lload hx hb dX6_hope_121 (lv_at hl 6 rfl) ?_
      refine lv_lload hx hb dX6_hope_123 (lv_at hl 4 rfl) ?_
      refine lv_iload_n hx hb dX6_hope_125 rfl (lv_at hl 1 rfl) ?_
      replace h := bd h
      obtain ⟨r2, hc, h⟩ := h
      refine r_calll hW (va_runS (As := [.long v10, .long v6, .int v3]) (rest := []) hC.1 (c_X6_lowest l D cy ad A N _ _ _ _ _ hc) (va_cwS 3 hts (gdS wd_237 wd_238 wd_5 wd_236) rfl rfl rfl (by decide +kernel) ⟨Nat.le_of_ble_eq_true rfl, Nat.le_of_ble_eq_true rfl⟩) (r_preS hC hW) rfl rfl hl.1 rfl (lv_room (Nat.le_of_ble_eq_true rfl)) dX6_hope_126 ⟨Nat.zero_le _, Nat.zero_le _⟩) (fun H locs hWn => ?_)
      replace hW := hWn
      clear hWn hc
      exact r_lretP hC hr hlocks h hW dX6_hope_129
  have L68 : ∀ (f : Nat) (v1 : Int32) (v2 : Int32) (v3 : Int32) (v4 : Int32) (v5 : Int32) (v6 : Int64) (v8 : Int64) (v10 : Int64) (v12 : Int32), t_X6_hope_68 N f v1 v2 v3 v4 v5 v6 v8 v10 v12 σ = some r → ∀ (H : Heap) (locs : List Loc), Wd D cy 55 shX ad A s.heap σ H locs → ∀ ls : Array Slot, lv_has ls 13 [(1, .int v1), (2, .int v2), (3, .int v3), (4, .int v4), (5, .int v5), (6, .long v6), (8, .long v8), (10, .long v10), (12, .int v12)] → Gl p l e us_X6_hope ({ frames := 3, cells := 0, slots := 0, locals := 66 } : Room) s m [.ref (ad 0), .int p0, .int p1, .int p2] below meth c D cy 55 shX ad A r σ H locs (F0 m 68 ls []) := by
    intro f
    unfold t_X6_hope_68
    refine loopG_ind (fun (T : Int32 → Int32 → Int32 → Int32 → Int32 → Int64 → Int64 → Int64 → Int32 → Hp → Option Int64) => ∀ (v1 : Int32) (v2 : Int32) (v3 : Int32) (v4 : Int32) (v5 : Int32) (v6 : Int64) (v8 : Int64) (v10 : Int64) (v12 : Int32), T v1 v2 v3 v4 v5 v6 v8 v10 v12 σ = some r → ∀ (H : Heap) (locs : List Loc), Wd D cy 55 shX ad A s.heap σ H locs → ∀ ls : Array Slot, lv_has ls 13 [(1, .int v1), (2, .int v2), (3, .int v3), (4, .int v4), (5, .int v5), (6, .long v6), (8, .long v8), (10, .long v10), (12, .int v12)] → Gl p l e us_X6_hope ({ frames := 3, cells := 0, slots := 0, locals := 66 } : Room) s m [.ref (ad 0), .int p0, .int p1, .int p2] below meth c D cy 55 shX ad A r σ H locs (F0 m 68 ls [])) ?_ ?_ f
    · intro v1 v2 v3 v4 v5 v6 v8 v10 v12 h; exact absurd h (by simp)
    · intro k68 ih68
      intro v1 v2 v3 v4 v5 v6 v8 v10 v12 h H locs hW ls hl
      refine lv_iload hx hb dX6_hope_68 (lv_at hl 8 rfl) ?_
      refine lv_iload hx hb dX6_hope_70 (lv_at hl 4 rfl) ?_
      refine lv_icmp_ge (tgt := 117) hx hb dX6_hope_72 (by decide) (fun cq => ?_) (fun cq => ?_)
      · replace h := tp cq h
        exact J117 _ _ _ _ _ _ _ h _ _ hW _ (lv_sub hl [1, 2, 3, 4, 5, 6, 7] rfl)
      · replace h := tn cq h
        refine lv_iload hx hb dX6_hope_75 (lv_at hl 8 rfl) ?_
        refine lv_bipush (v := 7) hx hb dX6_hope_77 (by decide) ?_
        refine lv_icmp_ge (tgt := 117) hx hb dX6_hope_79 (by decide) (fun cq => ?_) (fun cq => ?_)
        · replace h := tp cq h
          exact J117 _ _ _ _ _ _ _ h _ _ hW _ (lv_sub hl [1, 2, 3, 4, 5, 6, 7] rfl)
        · replace h := tn cq h
          refine lv_lload hx hb dX6_hope_82 (lv_at hl 5 rfl) ?_
          refine lv_ldc2 hx hb hown (hts _ wd_239) dX6_hope_84 ?_
          refine lv_lmul hx hb dX6_hope_87 ?_
          replace h := bx h
          obtain ⟨x3, ex3, h⟩ := h
          refine topel ex3 ?_
          clear ex3
          refine lv_lstore (lv' := [(6, .long x3), (1, .int v1), (2, .int v2), (3, .int v3), (4, .int v4), (5, .int v5), (8, .long v8), (10, .long v10), (12, .int v12)]) hx hb dX6_hope_88 hl (by decide) rfl (fun ls hln => ?_)
          replace hl := hln
          clear hln
          refine lv_lload hx hb dX6_hope_90 (lv_at hl 6 rfl) ?_
          refine lv_bipush (v := 10) hx hb dX6_hope_92 (by decide) ?_
          refine lv_iload_n hx hb dX6_hope_94 rfl (lv_at hl 1 rfl) ?_
          refine lv_isub hx hb dX6_hope_95 ?_
          refine lv_i2l hx hb dX6_hope_96 rfl ?_
          refine lv_lmul hx hb dX6_hope_97 ?_
          replace h := bx h
          obtain ⟨x4, ex4, h⟩ := h
          refine topel ex4 ?_
          clear ex4
          refine lv_lstore (lv' := [(8, .long x4), (6, .long x3), (1, .int v1), (2, .int v2), (3, .int v3), (4, .int v4), (5, .int v5), (10, .long v10), (12, .int v12)]) hx hb dX6_hope_98 hl (by decide) rfl (fun ls hln => ?_)
          replace hl := hln
          clear hln
          refine lv_lload hx hb dX6_hope_100 (lv_at hl 7 rfl) ?_
          refine lv_ldc2 hx hb hown (hts _ wd_239) dX6_hope_102 ?_
          refine lv_lmul hx hb dX6_hope_105 ?_
          refine lv_lload hx hb dX6_hope_106 (lv_at hl 0 rfl) ?_
          refine lv_ladd hx hb dX6_hope_108 ?_
          replace h := bx h
          obtain ⟨x5, ex5, h⟩ := h
          refine topel ex5 ?_
          clear ex5
          refine lv_lstore (lv' := [(10, .long x5), (8, .long x4), (6, .long x3), (1, .int v1), (2, .int v2), (3, .int v3), (4, .int v4), (5, .int v5), (12, .int v12)]) hx hb dX6_hope_109 hl (by decide) rfl (fun ls hln => ?_)
          replace hl := hln
          clear hln
          replace h := bx h
          obtain ⟨x6, ex6, h⟩ := h
          refine lv_iinc (v := x6) (lv' := [(12, .int x6), (10, .long x5), (8, .long x4), (6, .long x3), (1, .int v1), (2, .int v2), (3, .int v3), (4, .int v4), (5, .int v5)]) hx hb dX6_hope_111 hl (k := 8) rfl (by rw [ex6]; rfl) (by decide) rfl (fun ls hln => ?_)
          replace hl := hln
          clear hln ex6
          refine lv_goto (tgt := 68) hx hb dX6_hope_114 (by decide) ?_
          exact ih68 _ _ _ _ _ _ _ _ _ h _ _ hW _ (lv_sub hl [4, 5, 6, 7, 8, 3, 2, 1, 0] rfl)
  refine lv_iload_n hx hb dX6_hope_0 rfl (lv_at hl 1 rfl) ?_
  refine lv_iconst (v := 0) hx hb dX6_hope_1 (by decide) ?_
  refine lv_bipush (v := 10) hx hb dX6_hope_2 (by decide) ?_
  replace h := bd h
  obtain ⟨r7, hc, h⟩ := h
  refine r_calli hW (va_runS (As := [.int p0, .int 0, .int 10]) (rest := []) hC.1 (c_X6_isWithin l D cy ad A _ _ _ _ _ hc) (va_cwS 3 hts (gdS wd_101 wd_102 wd_5 wd_100) rfl rfl rfl (by decide +kernel) ⟨Nat.le_of_ble_eq_true rfl, Nat.le_of_ble_eq_true rfl⟩) (r_preS hC hW) rfl rfl hl.1 rfl (lv_room (Nat.le_of_ble_eq_true rfl)) dX6_hope_4 ⟨Nat.zero_le _, Nat.zero_le _⟩) (fun H locs hWn => ?_)
  replace hW := hWn
  clear hWn hc
  refine lv_if_eq (tgt := 28) hx hb dX6_hope_7 (by decide) (fun cq => ?_) (fun cq => ?_)
  · replace h := tp cq h
    refine lv_ldc2 hx hb hown (hts _ wd_240) dX6_hope_28 ?_
    exact r_lretP hC hr hlocks h hW dX6_hope_31
  · replace h := tn cq h
    refine lv_iload_n hx hb dX6_hope_10 rfl (lv_at hl 2 rfl) ?_
    refine lv_iconst (v := 0) hx hb dX6_hope_11 (by decide) ?_
    refine lv_iconst (v := 1) hx hb dX6_hope_12 (by decide) ?_
    replace h := bd h
    obtain ⟨r8, hc, h⟩ := h
    refine r_calli hW (va_runS (As := [.int p1, .int 0, .int 1]) (rest := []) hC.1 (c_X6_isWithin l D cy ad A _ _ _ _ _ hc) (va_cwS 3 hts (gdS wd_101 wd_102 wd_5 wd_100) rfl rfl rfl (by decide +kernel) ⟨Nat.le_of_ble_eq_true rfl, Nat.le_of_ble_eq_true rfl⟩) (r_preS hC hW) rfl rfl hl.1 rfl (lv_room (Nat.le_of_ble_eq_true rfl)) dX6_hope_13 ⟨Nat.zero_le _, Nat.zero_le _⟩) (fun H locs hWn => ?_)
    replace hW := hWn
    clear hWn hc
    refine lv_if_eq (tgt := 28) hx hb dX6_hope_16 (by decide) (fun cq => ?_) (fun cq => ?_)
    · replace h := tp cq h
      refine lv_ldc2 hx hb hown (hts _ wd_240) dX6_hope_28 ?_
      exact r_lretP hC hr hlocks h hW dX6_hope_31
    · replace h := tn cq h
      refine lv_iload_n hx hb dX6_hope_19 rfl (lv_at hl 3 rfl) ?_
      refine lv_iconst (v := 0) hx hb dX6_hope_20 (by decide) ?_
      refine lv_iconst (v := 1) hx hb dX6_hope_21 (by decide) ?_
      replace h := bd h
      obtain ⟨r9, hc, h⟩ := h
      refine r_calli hW (va_runS (As := [.int p2, .int 0, .int 1]) (rest := []) hC.1 (c_X6_isWithin l D cy ad A _ _ _ _ _ hc) (va_cwS 3 hts (gdS wd_101 wd_102 wd_5 wd_100) rfl rfl rfl (by decide +kernel) ⟨Nat.le_of_ble_eq_true rfl, Nat.le_of_ble_eq_true rfl⟩) (r_preS hC hW) rfl rfl hl.1 rfl (lv_room (Nat.le_of_ble_eq_true rfl)) dX6_hope_22 ⟨Nat.zero_le _, Nat.zero_le _⟩) (fun H locs hWn => ?_)
      replace hW := hWn
      clear hWn hc
      refine lv_if_ne (tgt := 32) hx hb dX6_hope_25 (by decide) (fun cq => ?_) (fun cq => ?_)
      · replace h := tn cq h
        refine lv_aload_n hx hb dX6_hope_32 rfl (lv_at hl 0 rfl) ?_
        refine r_getr hC hW 0 (Nat.le_of_ble_eq_true rfl) rfl rfl rfl (by decide) inUX6 (hts _ wd_175) rfl dX6_hope_33 ?_
        refine r_getrN hC hW 0 (Nat.le_of_ble_eq_true rfl) rfl rfl rfl (by decide) inUX4 (hC.2.2.use nf_RX6_50 rfl) rfl dX6_hope_36 ?_
        replace h := bd h
        obtain ⟨r10, hc, h⟩ := h
        refine r_calli hW (va_runVN (As := []) (rest := []) hC.1 (c_X0_countWhole l D cy ad A N 2 (c_coop 2 rfl) _ _ hc) ⟨va_cnB 0 hts (gdN wd_13) rfl rfl rfl (NL.at hC.2.2 nw_RX6_238 rfl) (hts _ wd_12) (by decide +kernel) ⟨Nat.le_of_ble_eq_true rfl, Nat.le_of_ble_eq_true rfl⟩, hts _ wd_15, hts _ wd_16⟩ (r_preV hC hW (Nat.le_of_ble_eq_true rfl) rfl rfl) rfl rfl hl.1 rfl (lv_room (Nat.le_of_ble_eq_true rfl)) dX6_hope_39 ⟨Nat.zero_le _, Nat.zero_le _⟩) (fun H locs hWn => ?_)
        replace hW := hWn
        clear hWn hc
        refine lv_istore (lv' := [(4, .int r10), (0, .ref (ad 0)), (1, .int p0), (2, .int p1), (3, .int p2)]) hx hb dX6_hope_42 hl (by decide) rfl (fun ls hln => ?_)
        replace hl := hln
        clear hln
        refine lv_aload_n hx hb dX6_hope_44 rfl (lv_at hl 1 rfl) ?_
        refine r_getr hC hW 0 (Nat.le_of_ble_eq_true rfl) rfl rfl rfl (by decide) inUX6 (hts _ wd_175) rfl dX6_hope_45 ?_
        refine r_getrN hC hW 0 (Nat.le_of_ble_eq_true rfl) rfl rfl rfl (by decide) inUX4 (hC.2.2.use nf_RX6_50 rfl) rfl dX6_hope_48 ?_
        replace h := bd h
        obtain ⟨r11, hc, h⟩ := h
        refine r_calli hW (va_runVN (As := []) (rest := []) hC.1 (c_X0_countWholeAheadOfEaten l D cy ad A N 2 (c_coop 2 rfl) _ _ hc) ⟨va_cnB 0 hts (gdN wd_241) rfl rfl rfl (NL.at hC.2.2 nw_RX6_241 rfl) (hts _ wd_12) (by decide +kernel) ⟨Nat.le_of_ble_eq_true rfl, Nat.le_of_ble_eq_true rfl⟩, hts _ wd_242, hts _ wd_243⟩ (r_preV hC hW (Nat.le_of_ble_eq_true rfl) rfl rfl) rfl rfl hl.1 rfl (lv_room (Nat.le_of_ble_eq_true rfl)) dX6_hope_51 ⟨Nat.zero_le _, Nat.zero_le _⟩) (fun H locs hWn => ?_)
        replace hW := hWn
        clear hWn hc
        refine lv_istore (lv' := [(5, .int r11), (4, .int r10), (0, .ref (ad 0)), (1, .int p0), (2, .int p1), (3, .int p2)]) hx hb dX6_hope_54 hl (by decide) rfl (fun ls hln => ?_)
        replace hl := hln
        clear hln
        refine lv_lconst (v := 1) hx hb dX6_hope_56 (by decide) ?_
        refine lv_lstore (lv' := [(6, .long 1), (5, .int r11), (4, .int r10), (0, .ref (ad 0)), (1, .int p0), (2, .int p1), (3, .int p2)]) hx hb dX6_hope_57 hl (by decide) rfl (fun ls hln => ?_)
        replace hl := hln
        clear hln
        refine lv_lconst (v := 1) hx hb dX6_hope_59 (by decide) ?_
        refine lv_lstore (lv' := [(8, .long 1), (6, .long 1), (5, .int r11), (4, .int r10), (0, .ref (ad 0)), (1, .int p0), (2, .int p1), (3, .int p2)]) hx hb dX6_hope_60 hl (by decide) rfl (fun ls hln => ?_)
        replace hl := hln
        clear hln
        refine lv_lconst (v := 0) hx hb dX6_hope_62 (by decide) ?_
        refine lv_lstore (lv' := [(10, .long 0), (8, .long 1), (6, .long 1), (5, .int r11), (4, .int r10), (0, .ref (ad 0)), (1, .int p0), (2, .int p1), (3, .int p2)]) hx hb dX6_hope_63 hl (by decide) rfl (fun ls hln => ?_)
        replace hl := hln
        clear hln
        refine lv_iconst (v := 0) hx hb dX6_hope_65 (by decide) ?_
        refine lv_istore (lv' := [(12, .int 0), (10, .long 0), (8, .long 1), (6, .long 1), (5, .int r11), (4, .int r10), (0, .ref (ad 0)), (1, .int p0), (2, .int p1), (3, .int p2)]) hx hb dX6_hope_66 hl (by decide) rfl (fun ls hln => ?_)
        replace hl := hln
        clear hln
        exact L68 _ _ _ _ _ _ _ _ _ _ h _ _ hW _ (lv_sub hl [7, 8, 9, 5, 4, 3, 2, 1, 0] rfl)
      · replace h := tp cq h
        refine lv_ldc2 hx hb hown (hts _ wd_240) dX6_hope_28 ?_
        exact r_lretP hC hr hlocks h hW dX6_hope_31
set_option maxHeartbeats 4000000 in
set_option maxRecDepth 100000 in
theorem c_X6_image (l : Launch) (D : va_G) (cy : ClassId × ClassId) (ad : Nat → Nat) (A : Nat → Prop) (N : Nat) (p0 : Int32) (σ : Hp) (r : Int32) (σ' : Hp) (h : t_X6_image N p0 σ = some (r, σ')) : Ci l yX6_image us_X6_image ({ frames := 3, cells := 0, slots := 0, locals := 64 } : Room) D cy 55 shX ad A [.ref (ad 0), .int p0] σ r σ' := by
  unfold t_X6_image at h
  refine Met.ofW (cc := cX6_image) (maxL := 3) (ret := (some .int)) (by decide) rfl ?_
  intro p e s m args below meth c s₁ B hml hv
  obtain ⟨rfl, hP, hK, hD, hA, hN⟩ := hv
  have hx := B.exec
  have hb := B.bytes
  have hr := B.returns
  have hlocks := B.notSynchronized
  have hts : ∀ w ∈ wsU, w.before _ s = true := fun w h => atoms_spec (ws := us_X6_image) B.pre w (List.mem_cons_of_mem _ h)
  have hown : s.vm.findClass RX6 = some m.cls := findClass_of_methodNamed B.named
  have hC : Cx p m c cX6_image 3 s _ wsU RX6 D cy := ⟨⟨hx, hb, hml, hown, hts⟩, hK, hN⟩
  have hW : Wd D cy 55 shX ad A s.heap σ s.heap [] := ⟨hP, hD, va_S.rf, hA⟩
  have hl := lv_entry ([.ref (ad 0), .int p0]) (n := 3) (Nat.le_of_ble_eq_true rfl)
  rw [lg_entry_eq]
  generalize (lg_sl ([.ref (ad 0), .int p0]) ++ List.replicate (3 - (lg_sl ([.ref (ad 0), .int p0])).length) Slot.unset).toArray = ls at hl ⊢
  have hl : lv_has ls 3 [(0, .ref (ad 0)), (1, .int p0)] := hl
  have J27 : ∀ (qs0 : Nat) (hqs0 : isScene qs0) (σ : Hp), t_X6_image_27 N qs0 σ = some (r, σ') → ∀ (H : Heap) (locs : List Loc), Wd D cy 55 shX ad A s.heap σ H locs → ∀ ls : Array Slot, lv_has ls 3 [(0, .ref (ad 0))] → Gi p l e us_X6_image ({ frames := 3, cells := 0, slots := 0, locals := 64 } : Room) s m [.ref (ad 0), .int p0] below meth c D cy 55 shX ad A r σ' H locs (F0 m 27 ls [.ref (ad qs0)]) := by
    intro qs0 hqs0 σ h H locs hW ls hl
    unfold t_X6_image_27 at h
    refine lv_astore_n (lv' := [(2, .ref (ad qs0)), (0, .ref (ad 0))]) hx hb dX6_image_27 rfl hl (by decide) rfl (fun ls hln => ?_)
    replace hl := hln
    clear hln
    refine lv_aload_n hx hb dX6_image_28 rfl (lv_at hl 0 rfl) ?_
    refine lv_aload_n hx hb dX6_image_29 rfl (lv_at hl 1 rfl) ?_
    refine r_getr hC hW 0 (Nat.le_of_ble_eq_true rfl) rfl rfl rfl (by decide) inUX6 (hts _ wd_175) rfl dX6_image_30 ?_
    replace h := bd h
    obtain ⟨σ1, hc, h⟩ := h
    refine r_callv hW (va_runVN (As := [.ref (ad 1)]) (rest := []) hC.1 (c_X4_copyFrom l D cy ad A N qs0 hqs0 1 (c_scene 1 rfl) _ _ hc) ⟨va_cnB 1 hts (gdN wd_244) rfl rfl rfl (NL.at hC.2.2 nw_RX6_250 rfl) (hts _ wd_245) (by decide +kernel) ⟨Nat.le_of_ble_eq_true rfl, Nat.le_of_ble_eq_true rfl⟩, hts _ wd_246, hts _ wd_247⟩ (r_preV hC hW (isScene_b hqs0 0 (Nat.zero_le _)) hqs0.2.1 rfl) rfl rfl hl.1 rfl (lv_room (Nat.le_of_ble_eq_true rfl)) dX6_image_33 ⟨Nat.zero_le _, Nat.zero_le _⟩) (fun H locs hWn => ?_)
    replace hW := hWn
    clear hWn hc
    refine lv_aload_n hx hb dX6_image_36 rfl (lv_at hl 0 rfl) ?_
    refine lv_iconst (v := 1) hx hb dX6_image_37 (by decide) ?_
    refine r_putN hC hW 2 (isScene_b hqs0 0 (Nat.zero_le _)) hqs0.2.1 rfl rfl (by decide) inUX4 tyX4 tyX4_ok nmX4 (hC.2.2.use nf_RX6_253 rfl) rfl rfl (nz (Or.inr rfl)) dX6_image_38 (fun σ2 eσ2 H locs hWn => ?_)
    replace h := bn eσ2 h
    replace hW := hWn
    clear hWn eσ2
    refine lv_iconst (v := 1) hx hb dX6_image_41 (by decide) ?_
    exact r_iretW hC hr hlocks h hW dX6_image_42
  refine lv_iload_n hx hb dX6_image_0 rfl (lv_at hl 1 rfl) ?_
  refine lv_iconst (v := 0) hx hb dX6_image_1 (by decide) ?_
  refine lv_iconst (v := 1) hx hb dX6_image_2 (by decide) ?_
  replace h := bd h
  obtain ⟨r3, hc, h⟩ := h
  refine r_calli hW (va_runS (As := [.int p0, .int 0, .int 1]) (rest := []) hC.1 (c_X6_isWithin l D cy ad A _ _ _ _ _ hc) (va_cwS 3 hts (gdS wd_101 wd_102 wd_5 wd_100) rfl rfl rfl (by decide +kernel) ⟨Nat.le_of_ble_eq_true rfl, Nat.le_of_ble_eq_true rfl⟩) (r_preS hC hW) rfl rfl hl.1 rfl (lv_room (Nat.le_of_ble_eq_true rfl)) dX6_image_3 ⟨Nat.zero_le _, Nat.zero_le _⟩) (fun H locs hWn => ?_)
  replace hW := hWn
  clear hWn hc
  refine lv_if_ne (tgt := 12) hx hb dX6_image_6 (by decide) (fun cq => ?_) (fun cq => ?_)
  · replace h := tn cq h
    refine lv_iload_n hx hb dX6_image_12 rfl (lv_at hl 1 rfl) ?_
    refine lv_if_ne (tgt := 23) hx hb dX6_image_13 (by decide) (fun cq => ?_) (fun cq => ?_)
    · replace h := tn cq h
      refine lv_aload_n hx hb dX6_image_23 rfl (lv_at hl 0 rfl) ?_
      refine r_getr hC hW 2 (Nat.le_of_ble_eq_true rfl) rfl rfl rfl (by decide) inUX6 (hts _ wd_248) rfl dX6_image_24 ?_
      exact J27 _ (c_scene 21 rfl) _ h _ _ hW _ (lv_sub hl [0] rfl)
    · replace h := tp cq h
      refine lv_aload_n hx hb dX6_image_16 rfl (lv_at hl 0 rfl) ?_
      refine r_getr hC hW 1 (Nat.le_of_ble_eq_true rfl) rfl rfl rfl (by decide) inUX6 (hts _ wd_249) rfl dX6_image_17 ?_
      refine lv_goto (tgt := 27) hx hb dX6_image_20 (by decide) ?_
      exact J27 _ (c_scene 11 rfl) _ h _ _ hW _ (lv_sub hl [0] rfl)
  · replace h := tp cq h
    refine lv_bipush (v := (-2)) hx hb dX6_image_9 (by decide) ?_
    exact r_iretW hC hr hlocks h hW dX6_image_11
set_option maxHeartbeats 4000000 in
set_option maxRecDepth 100000 in
theorem c_X6_isRest (l : Launch) (D : va_G) (cy : ClassId × ClassId) (ad : Nat → Nat) (A : Nat → Prop) (N : Nat) (p0 : Int32) (p1 : Int32) (p2 : Int32) (σ : Hp) (r : Int32) (h : t_X6_isRest N p0 p1 p2 σ = some r) : Ci l yX6_isRest us_X6_isRest ({ frames := 4, cells := 0, slots := 0, locals := 93 } : Room) D cy 55 shX ad A [.ref (ad 0), .int p0, .int p1, .int p2] σ r σ := by
  unfold t_X6_isRest at h
  refine Met.ofW (cc := cX6_isRest) (maxL := 6) (ret := (some .boolean)) (by decide) rfl ?_
  intro p e s m args below meth c s₁ B hml hv
  obtain ⟨rfl, hP, hK, hD, hA, hN⟩ := hv
  have hx := B.exec
  have hb := B.bytes
  have hr := B.returns
  have hlocks := B.notSynchronized
  have hts : ∀ w ∈ wsU, w.before _ s = true := fun w h => atoms_spec (ws := us_X6_isRest) B.pre w (List.mem_cons_of_mem _ h)
  have hown : s.vm.findClass RX6 = some m.cls := findClass_of_methodNamed B.named
  have hC : Cx p m c cX6_isRest 6 s _ wsU RX6 D cy := ⟨⟨hx, hb, hml, hown, hts⟩, hK, hN⟩
  have hW : Wd D cy 55 shX ad A s.heap σ s.heap [] := ⟨hP, hD, va_S.rf, hA⟩
  have hl := lv_entry ([.ref (ad 0), .int p0, .int p1, .int p2]) (n := 6) (Nat.le_of_ble_eq_true rfl)
  rw [lg_entry_eq]
  generalize (lg_sl ([.ref (ad 0), .int p0, .int p1, .int p2]) ++ List.replicate (6 - (lg_sl ([.ref (ad 0), .int p0, .int p1, .int p2])).length) Slot.unset).toArray = ls at hl ⊢
  have hl : lv_has ls 6 [(0, .ref (ad 0)), (1, .int p0), (2, .int p1), (3, .int p2)] := hl
  have L3 : ∀ (f : Nat) (v1 : Int32) (v2 : Int32) (v3 : Int32) (v4 : Int32), t_X6_isRest_3 N f v1 v2 v3 v4 σ = some r → ∀ (H : Heap) (locs : List Loc), Wd D cy 55 shX ad A s.heap σ H locs → ∀ ls : Array Slot, lv_has ls 6 [(0, .ref (ad 0)), (1, .int v1), (2, .int v2), (3, .int v3), (4, .int v4)] → Gi p l e us_X6_isRest ({ frames := 4, cells := 0, slots := 0, locals := 93 } : Room) s m [.ref (ad 0), .int p0, .int p1, .int p2] below meth c D cy 55 shX ad A r σ H locs (F0 m 3 ls []) := by
    intro f
    unfold t_X6_isRest_3
    refine loopG_ind (fun (T : Int32 → Int32 → Int32 → Int32 → Hp → Option Int32) => ∀ (v1 : Int32) (v2 : Int32) (v3 : Int32) (v4 : Int32), T v1 v2 v3 v4 σ = some r → ∀ (H : Heap) (locs : List Loc), Wd D cy 55 shX ad A s.heap σ H locs → ∀ ls : Array Slot, lv_has ls 6 [(0, .ref (ad 0)), (1, .int v1), (2, .int v2), (3, .int v3), (4, .int v4)] → Gi p l e us_X6_isRest ({ frames := 4, cells := 0, slots := 0, locals := 93 } : Room) s m [.ref (ad 0), .int p0, .int p1, .int p2] below meth c D cy 55 shX ad A r σ H locs (F0 m 3 ls [])) ?_ ?_ f
    · intro v1 v2 v3 v4 h; exact absurd h (by simp)
    · intro k3 ih3
      have J53 : ∀ (v1 : Int32) (v2 : Int32) (v3 : Int32) (v4 : Int32), t_X6_isRest_53 N k3 v1 v2 v3 v4 σ = some r → ∀ (H : Heap) (locs : List Loc), Wd D cy 55 shX ad A s.heap σ H locs → ∀ ls : Array Slot, lv_has ls 6 [(0, .ref (ad 0)), (1, .int v1), (2, .int v2), (3, .int v3), (4, .int v4)] → Gi p l e us_X6_isRest ({ frames := 4, cells := 0, slots := 0, locals := 93 } : Room) s m [.ref (ad 0), .int p0, .int p1, .int p2] below meth c D cy 55 shX ad A r σ H locs (F0 m 53 ls []) := by
        intro v1 v2 v3 v4 h H locs hW ls hl
        unfold t_X6_isRest_53 at h
        replace h := bx h
        obtain ⟨x1, ex1, h⟩ := h
        refine lv_iinc (v := x1) (lv' := [(4, .int x1), (0, .ref (ad 0)), (1, .int v1), (2, .int v2), (3, .int v3)]) hx hb dX6_isRest_53 hl (k := 4) rfl (by rw [ex1]; rfl) (by decide) rfl (fun ls hln => ?_)
        replace hl := hln
        clear hln ex1
        refine lv_goto (tgt := 3) hx hb dX6_isRest_56 (by decide) ?_
        exact ih3 _ _ _ _ h _ _ hW _ (lv_sub hl [1, 2, 3, 4, 0] rfl)
      intro v1 v2 v3 v4 h H locs hW ls hl
      refine lv_iload hx hb dX6_isRest_3 (lv_at hl 4 rfl) ?_
      refine lv_bipush (v := 6) hx hb dX6_isRest_5 (by decide) ?_
      refine lv_icmp_ge (tgt := 59) hx hb dX6_isRest_7 (by decide) (fun cq => ?_) (fun cq => ?_)
      · replace h := tp cq h
        refine lv_iconst (v := 1) hx hb dX6_isRest_59 (by decide) ?_
        exact r_zretP (Or.inr rfl) hC hr hlocks h hW dX6_isRest_60
      · replace h := tn cq h
        refine lv_iload_n hx hb dX6_isRest_10 rfl (lv_at hl 2 rfl) ?_
        refine lv_iload hx hb dX6_isRest_11 (lv_at hl 4 rfl) ?_
        replace h := bd h
        obtain ⟨r2, hc, h⟩ := h
        refine r_calli hW (va_runS (As := [.int v2, .int v4]) (rest := []) hC.1 (c_X6_hasBit l D cy ad A _ _ _ _ hc) (va_cwS 2 hts (gdS wd_213 wd_32 wd_5 wd_31) rfl rfl rfl (by decide +kernel) ⟨Nat.le_of_ble_eq_true rfl, Nat.le_of_ble_eq_true rfl⟩) (r_preS hC hW) rfl rfl hl.1 rfl (lv_room (Nat.le_of_ble_eq_true rfl)) dX6_isRest_13 ⟨Nat.zero_le _, Nat.zero_le _⟩) (fun H locs hWn => ?_)
        replace hW := hWn
        clear hWn hc
        refine lv_if_ne (tgt := 22) hx hb dX6_isRest_16 (by decide) (fun cq => ?_) (fun cq => ?_)
        · replace h := tn cq h
          refine lv_iload_n hx hb dX6_isRest_22 rfl (lv_at hl 1 rfl) ?_
          refine lv_iload hx hb dX6_isRest_23 (lv_at hl 4 rfl) ?_
          replace h := bd h
          obtain ⟨r3, hc, h⟩ := h
          refine r_calli hW (va_runS (As := [.int v4]) (rest := [.int v1]) hC.1 (c_X6_bit l D cy ad A _ _ _ hc) (va_cwS 1 hts (gdS wd_229 wd_26 wd_5 wd_25) rfl rfl rfl (by decide +kernel) ⟨Nat.le_of_ble_eq_true rfl, Nat.le_of_ble_eq_true rfl⟩) (r_preS hC hW) rfl rfl hl.1 rfl (lv_room (Nat.le_of_ble_eq_true rfl)) dX6_isRest_25 ⟨Nat.zero_le _, Nat.zero_le _⟩) (fun H locs hWn => ?_)
          replace hW := hWn
          clear hWn hc
          refine lv_ixor hx hb dX6_isRest_28 ?_
          replace h := bx h
          obtain ⟨x4, ex4, h⟩ := h
          refine tope ex4 ?_
          clear ex4
          refine lv_istore (lv' := [(5, .int x4), (0, .ref (ad 0)), (1, .int v1), (2, .int v2), (3, .int v3), (4, .int v4)]) hx hb dX6_isRest_29 hl (by decide) rfl (fun ls hln => ?_)
          replace hl := hln
          clear hln
          refine lv_aload_n hx hb dX6_isRest_31 rfl (lv_at hl 1 rfl) ?_
          refine lv_iload hx hb dX6_isRest_32 (lv_at hl 5 rfl) ?_
          refine lv_iload hx hb dX6_isRest_34 (lv_at hl 0 rfl) ?_
          refine lv_iload_n hx hb dX6_isRest_36 rfl (lv_at hl 4 rfl) ?_
          replace h := bd h
          obtain ⟨r5, hc, h⟩ := h
          refine r_calli hW (va_runV (As := [.int v4, .int x4, .int v3]) (rest := []) hC.1 (c_X6_gainOf l D cy ad A N _ _ _ _ _ hc) (cwV 3 hts (gdV wd_251 wd_252 wd_253 wd_5 wd_250) rfl rfl rfl (by decide +kernel) ⟨Nat.le_of_ble_eq_true rfl, Nat.le_of_ble_eq_true rfl⟩) (r_preV hC hW (Nat.le_of_ble_eq_true rfl) rfl rfl) rfl rfl hl.1 rfl (lv_room (Nat.le_of_ble_eq_true rfl)) dX6_isRest_37 ⟨Nat.zero_le _, Nat.zero_le _⟩) (fun H locs hWn => ?_)
          replace hW := hWn
          clear hWn hc
          refine lv_aload_n hx hb dX6_isRest_40 rfl (lv_at hl 1 rfl) ?_
          refine lv_iload hx hb dX6_isRest_41 (lv_at hl 5 rfl) ?_
          refine lv_iload_n hx hb dX6_isRest_43 rfl (lv_at hl 2 rfl) ?_
          refine lv_iload_n hx hb dX6_isRest_44 rfl (lv_at hl 4 rfl) ?_
          replace h := bd h
          obtain ⟨r6, hc, h⟩ := h
          refine r_calli hW (va_runV (As := [.int v4, .int v1, .int v3]) (rest := [.int r5]) hC.1 (c_X6_gainOf l D cy ad A N _ _ _ _ _ hc) (cwV 3 hts (gdV wd_251 wd_252 wd_253 wd_5 wd_250) rfl rfl rfl (by decide +kernel) ⟨Nat.le_of_ble_eq_true rfl, Nat.le_of_ble_eq_true rfl⟩) (r_preV hC hW (Nat.le_of_ble_eq_true rfl) rfl rfl) rfl rfl hl.1 rfl (lv_room (Nat.le_of_ble_eq_true rfl)) dX6_isRest_45 ⟨Nat.zero_le _, Nat.zero_le _⟩) (fun H locs hWn => ?_)
          replace hW := hWn
          clear hWn hc
          refine lv_icmp_le (tgt := 53) hx hb dX6_isRest_48 (by decide) (fun cq => ?_) (fun cq => ?_)
          · replace h := tp cq h
            exact J53 _ _ _ _ h _ _ hW _ (lv_sub hl [1, 2, 3, 4, 5] rfl)
          · replace h := tn cq h
            refine lv_iconst (v := 0) hx hb dX6_isRest_51 (by decide) ?_
            exact r_zretP (Or.inl rfl) hC hr hlocks h hW dX6_isRest_52
        · replace h := tp cq h
          refine lv_goto (tgt := 53) hx hb dX6_isRest_19 (by decide) ?_
          exact J53 _ _ _ _ h _ _ hW _ (lv_sub hl [0, 1, 2, 3, 4] rfl)
  refine lv_iconst (v := 0) hx hb dX6_isRest_0 (by decide) ?_
  refine lv_istore (lv' := [(4, .int 0), (0, .ref (ad 0)), (1, .int p0), (2, .int p1), (3, .int p2)]) hx hb dX6_isRest_1 hl (by decide) rfl (fun ls hln => ?_)
  replace hl := hln
  clear hln
  exact L3 _ _ _ _ _ h _ _ hW _ (lv_sub hl [1, 2, 3, 4, 0] rfl)
set_option maxHeartbeats 4000000 in
set_option maxRecDepth 100000 in
theorem c_X6_judge (l : Launch) (D : va_G) (cy : ClassId × ClassId) (ad : Nat → Nat) (A : Nat → Prop) (N : Nat) (p0 : Int32) (σ : Hp) (r : Int32) (σ' : Hp) (h : t_X6_judge N p0 σ = some (r, σ')) : Ci l yX6_judge us_X6_judge ({ frames := 6, cells := 0, slots := 0, locals := 137 } : Room) D cy 55 shX ad A [.ref (ad 0), .int p0] σ r σ' := by
  unfold t_X6_judge at h
  refine Met.ofW (cc := cX6_judge) (maxL := 3) (ret := (some .int)) (by decide) rfl ?_
  intro p e s m args below meth c s₁ B hml hv
  obtain ⟨rfl, hP, hK, hD, hA, hN⟩ := hv
  have hx := B.exec
  have hb := B.bytes
  have hr := B.returns
  have hlocks := B.notSynchronized
  have hts : ∀ w ∈ wsU, w.before _ s = true := fun w h => atoms_spec (ws := us_X6_judge) B.pre w (List.mem_cons_of_mem _ h)
  have hown : s.vm.findClass RX6 = some m.cls := findClass_of_methodNamed B.named
  have hC : Cx p m c cX6_judge 3 s _ wsU RX6 D cy := ⟨⟨hx, hb, hml, hown, hts⟩, hK, hN⟩
  have hW : Wd D cy 55 shX ad A s.heap σ s.heap [] := ⟨hP, hD, va_S.rf, hA⟩
  have hl := lv_entry ([.ref (ad 0), .int p0]) (n := 3) (Nat.le_of_ble_eq_true rfl)
  rw [lg_entry_eq]
  generalize (lg_sl ([.ref (ad 0), .int p0]) ++ List.replicate (3 - (lg_sl ([.ref (ad 0), .int p0])).length) Slot.unset).toArray = ls at hl ⊢
  have hl : lv_has ls 3 [(0, .ref (ad 0)), (1, .int p0)] := hl
  have J50 : ∀ (v1 : Int32) (σ : Hp), t_X6_judge_50 N v1 σ = some (r, σ') → ∀ (H : Heap) (locs : List Loc), Wd D cy 55 shX ad A s.heap σ H locs → ∀ ls : Array Slot, lv_has ls 3 [(0, .ref (ad 0)), (1, .int v1)] → Gi p l e us_X6_judge ({ frames := 6, cells := 0, slots := 0, locals := 137 } : Room) s m [.ref (ad 0), .int p0] below meth c D cy 55 shX ad A r σ' H locs (F0 m 50 ls []) := by
    intro v1 σ h H locs hW ls hl
    unfold t_X6_judge_50 at h
    refine lv_iload_n hx hb dX6_judge_50 rfl (lv_at hl 1 rfl) ?_
    by_cases cq0 : v1 = 0
    · replace h := tp cq0 h
      refine lv_tableIn (off := 25) (tgt := 76) hx hb dX6_judge_51 (by rw [cq0]; decide) (by rw [cq0]; decide) (by rw [cq0]; rfl) (by decide) ?_
      refine lv_aload_n hx hb dX6_judge_76 rfl (lv_at hl 0 rfl) ?_
      refine r_getr hC hW 4 (Nat.le_of_ble_eq_true rfl) rfl rfl rfl (by decide) inUX6 (hts _ wd_205) rfl dX6_judge_77 ?_
      refine r_getiN hC hW 5 (Nat.le_of_ble_eq_true rfl) rfl rfl rfl (by decide) inUX5 (hC.2.2.use nf_RX6_135 rfl) rfl dX6_judge_80 ?_
      refine lv_if_ne (tgt := 91) hx hb dX6_judge_83 (by decide) (fun cq => ?_) (fun cq => ?_)
      · replace h := tn cq h
        refine lv_aload_n hx hb dX6_judge_91 rfl (lv_at hl 0 rfl) ?_
        refine r_getr hC hW 4 (Nat.le_of_ble_eq_true rfl) rfl rfl rfl (by decide) inUX6 (hts _ wd_205) rfl dX6_judge_92 ?_
        refine r_getiN hC hW 2 (Nat.le_of_ble_eq_true rfl) rfl rfl rfl (by decide) inUX5 (hC.2.2.use nf_RX6_138 rfl) rfl dX6_judge_95 ?_
        exact r_iretW hC hr hlocks h hW dX6_judge_98
      · replace h := tp cq h
        refine lv_bipush (v := (-6)) hx hb dX6_judge_86 (by decide) ?_
        refine lv_goto (tgt := 98) hx hb dX6_judge_88 (by decide) ?_
        exact r_iretW hC hr hlocks h hW dX6_judge_98
    replace h := tn cq0 h
    by_cases cq1 : v1 = 1
    · replace h := tp cq1 h
      refine lv_tableIn (off := 48) (tgt := 99) hx hb dX6_judge_51 (by rw [cq1]; decide) (by rw [cq1]; decide) (by rw [cq1]; rfl) (by decide) ?_
      refine lv_aload_n hx hb dX6_judge_99 rfl (lv_at hl 0 rfl) ?_
      refine r_getr hC hW 4 (Nat.le_of_ble_eq_true rfl) rfl rfl rfl (by decide) inUX6 (hts _ wd_205) rfl dX6_judge_100 ?_
      refine r_getiN hC hW 5 (Nat.le_of_ble_eq_true rfl) rfl rfl rfl (by decide) inUX5 (hC.2.2.use nf_RX6_135 rfl) rfl dX6_judge_103 ?_
      refine lv_if_ne (tgt := 114) hx hb dX6_judge_106 (by decide) (fun cq => ?_) (fun cq => ?_)
      · replace h := tn cq h
        refine lv_aload_n hx hb dX6_judge_114 rfl (lv_at hl 0 rfl) ?_
        refine r_getr hC hW 4 (Nat.le_of_ble_eq_true rfl) rfl rfl rfl (by decide) inUX6 (hts _ wd_205) rfl dX6_judge_115 ?_
        refine r_getiN hC hW 5 (Nat.le_of_ble_eq_true rfl) rfl rfl rfl (by decide) inUX5 (hC.2.2.use nf_RX6_135 rfl) rfl dX6_judge_118 ?_
        exact r_iretW hC hr hlocks h hW dX6_judge_121
      · replace h := tp cq h
        refine lv_bipush (v := (-6)) hx hb dX6_judge_109 (by decide) ?_
        refine lv_goto (tgt := 121) hx hb dX6_judge_111 (by decide) ?_
        exact r_iretW hC hr hlocks h hW dX6_judge_121
    replace h := tn cq1 h
    by_cases cq2 : v1 = 2
    · replace h := tp cq2 h
      refine lv_tableIn (off := 71) (tgt := 122) hx hb dX6_judge_51 (by rw [cq2]; decide) (by rw [cq2]; decide) (by rw [cq2]; rfl) (by decide) ?_
      refine lv_aload_n hx hb dX6_judge_122 rfl (lv_at hl 0 rfl) ?_
      refine r_getr hC hW 4 (Nat.le_of_ble_eq_true rfl) rfl rfl rfl (by decide) inUX6 (hts _ wd_205) rfl dX6_judge_123 ?_
      refine r_getiN hC hW 3 (Nat.le_of_ble_eq_true rfl) rfl rfl rfl (by decide) inUX5 (hC.2.2.use nf_RX6_141 rfl) rfl dX6_judge_126 ?_
      exact r_iretW hC hr hlocks h hW dX6_judge_129
    replace h := tn cq2 h
    refine lv_tableOut (tgt := 130) hx hb dX6_judge_51 (by have z0 := ti_ne cq0; have z1 := ti_ne cq1; have z2 := ti_ne cq2; simp only [ti_0, ti_1, ti_2] at z0 z1 z2; omega) (by decide) ?_
    refine lv_aload_n hx hb dX6_judge_130 rfl (lv_at hl 0 rfl) ?_
    refine r_getr hC hW 4 (Nat.le_of_ble_eq_true rfl) rfl rfl rfl (by decide) inUX6 (hts _ wd_205) rfl dX6_judge_131 ?_
    refine r_getiN hC hW 4 (Nat.le_of_ble_eq_true rfl) rfl rfl rfl (by decide) inUX5 (hC.2.2.use nf_RX6_144 rfl) rfl dX6_judge_134 ?_
    exact r_iretW hC hr hlocks h hW dX6_judge_137
  refine lv_iload_n hx hb dX6_judge_0 rfl (lv_at hl 1 rfl) ?_
  refine lv_iconst (v := 0) hx hb dX6_judge_1 (by decide) ?_
  refine lv_iconst (v := 3) hx hb dX6_judge_2 (by decide) ?_
  replace h := bd h
  obtain ⟨r1, hc, h⟩ := h
  refine r_calli hW (va_runS (As := [.int p0, .int 0, .int 3]) (rest := []) hC.1 (c_X6_isWithin l D cy ad A _ _ _ _ _ hc) (va_cwS 3 hts (gdS wd_101 wd_102 wd_5 wd_100) rfl rfl rfl (by decide +kernel) ⟨Nat.le_of_ble_eq_true rfl, Nat.le_of_ble_eq_true rfl⟩) (r_preS hC hW) rfl rfl hl.1 rfl (lv_room (Nat.le_of_ble_eq_true rfl)) dX6_judge_3 ⟨Nat.zero_le _, Nat.zero_le _⟩) (fun H locs hWn => ?_)
  replace hW := hWn
  clear hWn hc
  refine lv_if_ne (tgt := 12) hx hb dX6_judge_6 (by decide) (fun cq => ?_) (fun cq => ?_)
  · replace h := tn cq h
    refine lv_aload_n hx hb dX6_judge_12 rfl (lv_at hl 0 rfl) ?_
    refine r_getr hC hW 4 (Nat.le_of_ble_eq_true rfl) rfl rfl rfl (by decide) inUX6 (hts _ wd_205) rfl dX6_judge_13 ?_
    refine lv_aload_n hx hb dX6_judge_16 rfl (lv_at hl 0 rfl) ?_
    refine r_getr hC hW 3 (Nat.le_of_ble_eq_true rfl) rfl rfl rfl (by decide) inUX6 (hts _ wd_182) rfl dX6_judge_17 ?_
    refine lv_aload_n hx hb dX6_judge_20 rfl (lv_at hl 0 rfl) ?_
    refine r_getr hC hW 0 (Nat.le_of_ble_eq_true rfl) rfl rfl rfl (by decide) inUX6 (hts _ wd_175) rfl dX6_judge_21 ?_
    refine r_getrN hC hW 0 (Nat.le_of_ble_eq_true rfl) rfl rfl rfl (by decide) inUX4 (hC.2.2.use nf_RX6_50 rfl) rfl dX6_judge_24 ?_
    replace h := ob h
    obtain ⟨r2, σ3, hc, h⟩ := h
    refine r_calli hW (va_runVN (As := [.ref (ad 31), .ref (ad 2)]) (rest := []) hC.1 (c_X5_run l D cy ad A N _ _ _ hc) ⟨va_cnB 2 hts (gdN wd_206) rfl rfl rfl (NL.at hC.2.2 nw_RX6_131 rfl) (hts _ wd_159) (by decide +kernel) ⟨Nat.le_of_ble_eq_true rfl, Nat.le_of_ble_eq_true rfl⟩, hts _ wd_207, hts _ wd_208⟩ (r_preV hC hW (Nat.le_of_ble_eq_true rfl) rfl rfl) rfl rfl hl.1 rfl (lv_room (Nat.le_of_ble_eq_true rfl)) dX6_judge_27 ⟨Nat.zero_le _, Nat.zero_le _⟩) (fun H locs hWn => ?_)
    replace hW := hWn
    clear hWn hc
    refine lv_istore_n (lv' := [(2, .int r2), (0, .ref (ad 0)), (1, .int p0)]) hx hb dX6_judge_30 rfl hl (by decide) rfl (fun ls hln => ?_)
    replace hl := hln
    clear hln
    refine lv_iload_n hx hb dX6_judge_31 rfl (lv_at hl 0 rfl) ?_
    refine lv_bipush (v := (-5)) hx hb dX6_judge_32 (by decide) ?_
    refine lv_icmp_eq (tgt := 48) hx hb dX6_judge_34 (by decide) (fun cq => ?_) (fun cq => ?_)
    · replace h := tp cq h
      refine lv_iload_n hx hb dX6_judge_48 rfl (lv_at hl 0 rfl) ?_
      exact r_iretW hC hr hlocks h hW dX6_judge_49
    · replace h := tn cq h
      refine lv_iload_n hx hb dX6_judge_37 rfl (lv_at hl 0 rfl) ?_
      refine lv_bipush (v := (-3)) hx hb dX6_judge_38 (by decide) ?_
      refine lv_icmp_ne (tgt := 50) hx hb dX6_judge_40 (by decide) (fun cq => ?_) (fun cq => ?_)
      · replace h := tn cq h
        exact J50 _ _ h _ _ hW _ (lv_sub hl [1, 2] rfl)
      · replace h := tp cq h
        refine lv_iload_n hx hb dX6_judge_43 rfl (lv_at hl 2 rfl) ?_
        refine lv_iconst (v := 2) hx hb dX6_judge_44 (by decide) ?_
        refine lv_icmp_lt (tgt := 50) hx hb dX6_judge_45 (by decide) (fun cq => ?_) (fun cq => ?_)
        · replace h := tp cq h
          exact J50 _ _ h _ _ hW _ (lv_sub hl [1, 2] rfl)
        · replace h := tn cq h
          refine lv_iload_n hx hb dX6_judge_48 rfl (lv_at hl 0 rfl) ?_
          exact r_iretW hC hr hlocks h hW dX6_judge_49
  · replace h := tp cq h
    refine lv_bipush (v := (-2)) hx hb dX6_judge_9 (by decide) ?_
    exact r_iretW hC hr hlocks h hW dX6_judge_11
set_option maxHeartbeats 4000000 in
set_option maxRecDepth 100000 in
theorem c_X6_mend (l : Launch) (D : va_G) (cy : ClassId × ClassId) (ad : Nat → Nat) (A : Nat → Prop) (N : Nat) (p0 : Int32) (σ : Hp) (r : Int32) (h : t_X6_mend N p0 σ = some r) : Ci l yX6_mend us_X6_mend ({ frames := 3, cells := 0, slots := 0, locals := 67 } : Room) D cy 55 shX ad A [.ref (ad 0), .int p0] σ r σ := by
  unfold t_X6_mend at h
  refine Met.ofW (cc := cX6_mend) (maxL := 3) (ret := (some .int)) (by decide) rfl ?_
  intro p e s m args below meth c s₁ B hml hv
  obtain ⟨rfl, hP, hK, hD, hA, hN⟩ := hv
  have hx := B.exec
  have hb := B.bytes
  have hr := B.returns
  have hlocks := B.notSynchronized
  have hts : ∀ w ∈ wsU, w.before _ s = true := fun w h => atoms_spec (ws := us_X6_mend) B.pre w (List.mem_cons_of_mem _ h)
  have hown : s.vm.findClass RX6 = some m.cls := findClass_of_methodNamed B.named
  have hC : Cx p m c cX6_mend 3 s _ wsU RX6 D cy := ⟨⟨hx, hb, hml, hown, hts⟩, hK, hN⟩
  have hW : Wd D cy 55 shX ad A s.heap σ s.heap [] := ⟨hP, hD, va_S.rf, hA⟩
  have hl := lv_entry ([.ref (ad 0), .int p0]) (n := 3) (Nat.le_of_ble_eq_true rfl)
  rw [lg_entry_eq]
  generalize (lg_sl ([.ref (ad 0), .int p0]) ++ List.replicate (3 - (lg_sl ([.ref (ad 0), .int p0])).length) Slot.unset).toArray = ls at hl ⊢
  have hl : lv_has ls 3 [(0, .ref (ad 0)), (1, .int p0)] := hl
  refine lv_iload_n hx hb dX6_mend_0 rfl (lv_at hl 1 rfl) ?_
  refine lv_iconst (v := 0) hx hb dX6_mend_1 (by decide) ?_
  refine lv_iconst (v := 1) hx hb dX6_mend_2 (by decide) ?_
  replace h := bd h
  obtain ⟨r1, hc, h⟩ := h
  refine r_calli hW (va_runS (As := [.int p0, .int 0, .int 1]) (rest := []) hC.1 (c_X6_isWithin l D cy ad A _ _ _ _ _ hc) (va_cwS 3 hts (gdS wd_101 wd_102 wd_5 wd_100) rfl rfl rfl (by decide +kernel) ⟨Nat.le_of_ble_eq_true rfl, Nat.le_of_ble_eq_true rfl⟩) (r_preS hC hW) rfl rfl hl.1 rfl (lv_room (Nat.le_of_ble_eq_true rfl)) dX6_mend_3 ⟨Nat.zero_le _, Nat.zero_le _⟩) (fun H locs hWn => ?_)
  replace hW := hWn
  clear hWn hc
  refine lv_if_ne (tgt := 12) hx hb dX6_mend_6 (by decide) (fun cq => ?_) (fun cq => ?_)
  · replace h := tn cq h
    refine lv_aload_n hx hb dX6_mend_12 rfl (lv_at hl 0 rfl) ?_
    refine r_getr hC hW 0 (Nat.le_of_ble_eq_true rfl) rfl rfl rfl (by decide) inUX6 (hts _ wd_175) rfl dX6_mend_13 ?_
    refine r_getrN hC hW 0 (Nat.le_of_ble_eq_true rfl) rfl rfl rfl (by decide) inUX4 (hC.2.2.use nf_RX6_50 rfl) rfl dX6_mend_16 ?_
    replace h := bd h
    obtain ⟨r2, hc, h⟩ := h
    refine r_calli hW (va_runVN (As := []) (rest := []) hC.1 (c_X0_eatenAheadOfWhole l D cy ad A N 2 (c_coop 2 rfl) _ _ hc) ⟨va_cnB 0 hts (gdN wd_254) rfl rfl rfl (NL.at hC.2.2 nw_RX6_197 rfl) (hts _ wd_12) (by decide +kernel) ⟨Nat.le_of_ble_eq_true rfl, Nat.le_of_ble_eq_true rfl⟩, hts _ wd_255, hts _ wd_256⟩ (r_preV hC hW (Nat.le_of_ble_eq_true rfl) rfl rfl) rfl rfl hl.1 rfl (lv_room (Nat.le_of_ble_eq_true rfl)) dX6_mend_19 ⟨Nat.zero_le _, Nat.zero_le _⟩) (fun H locs hWn => ?_)
    replace hW := hWn
    clear hWn hc
    refine lv_istore_n (lv' := [(2, .int r2), (0, .ref (ad 0)), (1, .int p0)]) hx hb dX6_mend_22 rfl hl (by decide) rfl (fun ls hln => ?_)
    replace hl := hln
    clear hln
    refine lv_iload_n hx hb dX6_mend_23 rfl (lv_at hl 2 rfl) ?_
    refine lv_if_ne (tgt := 34) hx hb dX6_mend_24 (by decide) (fun cq => ?_) (fun cq => ?_)
    · replace h := tn cq h
      refine lv_iload_n hx hb dX6_mend_34 rfl (lv_at hl 0 rfl) ?_
      exact r_iretP hC hr hlocks h hW dX6_mend_35
    · replace h := tp cq h
      refine lv_iload_n hx hb dX6_mend_27 rfl (lv_at hl 0 rfl) ?_
      replace h := bd h
      obtain ⟨r3, hc, h⟩ := h
      refine r_calli hW (va_runS (As := [.int r2]) (rest := []) hC.1 (c_J6_bitCount_0f7a4 l D cy ad A _ _ _ hc) (va_cwS 1 hts (gdS wd_257 wd_153 wd_154 wd_151) rfl rfl rfl (by decide +kernel) ⟨Nat.le_of_ble_eq_true rfl, Nat.le_of_ble_eq_true rfl⟩) (r_preS hC hW) rfl rfl hl.1 rfl (lv_room (Nat.le_of_ble_eq_true rfl)) dX6_mend_28 ⟨Nat.zero_le _, Nat.zero_le _⟩) (fun H locs hWn => ?_)
      replace hW := hWn
      clear hWn hc
      refine lv_goto (tgt := 35) hx hb dX6_mend_31 (by decide) ?_
      exact r_iretP hC hr hlocks h hW dX6_mend_35
  · replace h := tp cq h
    refine lv_bipush (v := (-2)) hx hb dX6_mend_9 (by decide) ?_
    exact r_iretP hC hr hlocks h hW dX6_mend_11
