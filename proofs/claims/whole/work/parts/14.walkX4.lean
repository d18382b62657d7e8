set_option maxHeartbeats 4000000 in
set_option maxRecDepth 100000 in
theorem c_X6_findFitting (l : Launch) (D : va_G) (cy : ClassId × ClassId) (ad : Nat → Nat) (A : Nat → Prop) (N : Nat) (σ : Hp) (r : Int32) (σ' : Hp) (h : t_X6_findFitting N σ = some (r, σ')) : Ci l yX6_findFitting us_X6_findFitting ({ frames := 13, cells := 0, slots := 0, locals := 337 } : Room) D cy 55 shX ad A [.ref (ad 0)] σ r σ' := by
  unfold t_X6_findFitting at h
  refine Met.ofW (cc := cX6_findFitting) (maxL := 2) (ret := (some .int)) (by decide) rfl ?_
  intro p e s m args below meth c s₁ B hml hv
  obtain ⟨rfl, hP, hK, hD, hA, hN⟩ := hv
  have hx := B.exec
  have hb := B.bytes
  have hr := B.returns
  have hlocks := B.notSynchronized
  have hts : ∀ w ∈ wsU, w.before _ s = true := fun w h => atoms_spec (ws := us_X6_findFitting) B.pre w (List.mem_cons_of_mem _ h)
  have hown : s.vm.findClass RX6 = some m.cls := findClass_of_methodNamed B.named
  have hC : Cx p m c cX6_findFitting 2 s _ wsU RX6 D cy := ⟨⟨hx, hb, hml, hown, hts⟩, hK, hN⟩
  have hW : Wd D cy 55 shX ad A s.heap σ s.heap [] := ⟨hP, hD, va_S.rf, hA⟩
  have hl := lv_entry ([.ref (ad 0)]) (n := 2) (Nat.le_of_ble_eq_true rfl)
  rw [lg_entry_eq]
  generalize (lg_sl ([.ref (ad 0)]) ++ List.replicate (2 - (lg_sl ([.ref (ad 0)])).length) Slot.unset).toArray = ls at hl ⊢
  have hl : lv_has ls 2 [(0, .ref (ad 0))] := hl
  have J141 : ∀ (σ : Hp), t_X6_findFitting_141 N  σ = some (r, σ') → ∀ (H : Heap) (locs : List Loc), Wd D cy 55 shX ad A s.heap σ H locs → ∀ ls : Array Slot, lv_has ls 2 [(0, .ref (ad 0))] → Gi p l e us_X6_findFitting ({ frames := 13, cells := 0, slots := 0, locals := 337 } : Room) s m [.ref (ad 0)] below meth c D cy 55 shX ad A r σ' H locs (F0 m 141 ls []) := by
    intro  σ h H locs hW ls hl
    unfold t_X6_findFitting_141 at h
    refine lv_aload_n hx hb dX6_findFitting_141 rfl (lv_at hl 0 rfl) ?_
    refine r_getr hC hW 5 (Nat.le_of_ble_eq_true rfl) rfl rfl rfl (by decide) inUX6 (hts _ wd_171) rfl dX6_findFitting_142 ?_
    replace h := bd h
    obtain ⟨σ1, hc, h⟩ := h
    refine r_callv hW (va_runVN (As := []) (rest := []) hC.1 (c_X1_search l D cy ad A N _ _ hc) ⟨va_cnB 0 hts (gdN wd_172) rfl rfl rfl (NL.at hC.2.2 nw_RX6_274 rfl) (hts _ wd_73) (by decide +kernel) ⟨Nat.le_of_ble_eq_true rfl, Nat.le_of_ble_eq_true rfl⟩, hts _ wd_173, hts _ wd_174⟩ (r_preV hC hW (Nat.le_of_ble_eq_true rfl) rfl rfl) rfl rfl hl.1 rfl (lv_room (Nat.le_of_ble_eq_true rfl)) dX6_findFitting_145 ⟨Nat.zero_le _, Nat.zero_le _⟩) (fun H locs hWn => ?_)
    replace hW := hWn
    clear hWn hc
    refine lv_iconst (v := 0) hx hb dX6_findFitting_148 (by decide) ?_
    exact r_iretW hC hr hlocks h hW dX6_findFitting_149
  have J74 : ∀ (v1 : Int32) (σ : Hp), t_X6_findFitting_74 N v1 σ = some (r, σ') → ∀ (H : Heap) (locs : List Loc), Wd D cy 55 shX ad A s.heap σ H locs → ∀ ls : Array Slot, lv_has ls 2 [(0, .ref (ad 0)), (1, .int v1)] → Gi p l e us_X6_findFitting ({ frames := 13, cells := 0, slots := 0, locals := 337 } : Room) s m [.ref (ad 0)] below meth c D cy 55 shX ad A r σ' H locs (F0 m 74 ls []) := by
    intro v1 σ h H locs hW ls hl
    unfold t_X6_findFitting_74 at h
    refine lv_aload_n hx hb dX6_findFitting_74 rfl (lv_at hl 0 rfl) ?_
    refine r_getr hC hW 5 (Nat.le_of_ble_eq_true rfl) rfl rfl rfl (by decide) inUX6 (hts _ wd_171) rfl dX6_findFitting_75 ?_
    refine lv_aload_n hx hb dX6_findFitting_78 rfl (lv_at hl 0 rfl) ?_
    refine r_getr hC hW 0 (Nat.le_of_ble_eq_true rfl) rfl rfl rfl (by decide) inUX6 (hts _ wd_175) rfl dX6_findFitting_79 ?_
    refine r_getrN hC hW 0 (Nat.le_of_ble_eq_true rfl) rfl rfl rfl (by decide) inUX4 (hC.2.2.use nf_RX6_50 rfl) rfl dX6_findFitting_82 ?_
    refine r_getiN hC hW 0 (Nat.le_of_ble_eq_true rfl) rfl rfl rfl (by decide) inUX0 (hC.2.2.use nf_RX6_61 rfl) rfl dX6_findFitting_85 ?_
    replace h := bd h
    obtain ⟨σ2, hc, h⟩ := h
    refine r_callv hW (va_runVN (As := [.int (σ 2 0)]) (rest := []) hC.1 (c_X1_begin l D cy ad A N _ _ _ hc) ⟨va_cnB 1 hts (gdN wd_176) rfl rfl rfl (NL.at hC.2.2 nw_RX6_260 rfl) (hts _ wd_73) (by decide +kernel) ⟨Nat.le_of_ble_eq_true rfl, Nat.le_of_ble_eq_true rfl⟩, hts _ wd_177, hts _ wd_178⟩ (r_preV hC hW (Nat.le_of_ble_eq_true rfl) rfl rfl) rfl rfl hl.1 rfl (lv_room (Nat.le_of_ble_eq_true rfl)) dX6_findFitting_88 ⟨Nat.zero_le _, Nat.zero_le _⟩) (fun H locs hWn => ?_)
    replace hW := hWn
    clear hWn hc
    refine lv_aload_n hx hb dX6_findFitting_91 rfl (lv_at hl 0 rfl) ?_
    refine r_getr hC hW 5 (Nat.le_of_ble_eq_true rfl) rfl rfl rfl (by decide) inUX6 (hts _ wd_171) rfl dX6_findFitting_92 ?_
    refine lv_aload_n hx hb dX6_findFitting_95 rfl (lv_at hl 0 rfl) ?_
    refine r_getr hC hW 0 (Nat.le_of_ble_eq_true rfl) rfl rfl rfl (by decide) inUX6 (hts _ wd_175) rfl dX6_findFitting_96 ?_
    refine r_getrN hC hW 1 (Nat.le_of_ble_eq_true rfl) rfl rfl rfl (by decide) inUX4 (hC.2.2.use nf_RX6_65 rfl) rfl dX6_findFitting_99 ?_
    replace h := bd h
    obtain ⟨σ3, hc, h⟩ := h
    refine r_callv hW (va_runVN (As := [.ref (ad 5)]) (rest := []) hC.1 (c_X1_takeClues l D cy ad A N _ _ hc) ⟨va_cnB 1 hts (gdN wd_179) rfl rfl rfl (NL.at hC.2.2 nw_RX6_263 rfl) (hts _ wd_73) (by decide +kernel) ⟨Nat.le_of_ble_eq_true rfl, Nat.le_of_ble_eq_true rfl⟩, hts _ wd_180, hts _ wd_181⟩ (r_preV hC hW (Nat.le_of_ble_eq_true rfl) rfl rfl) rfl rfl hl.1 rfl (lv_room (Nat.le_of_ble_eq_true rfl)) dX6_findFitting_102 ⟨Nat.zero_le _, Nat.zero_le _⟩) (fun H locs hWn => ?_)
    replace hW := hWn
    clear hWn hc
    refine lv_iload_n hx hb dX6_findFitting_105 rfl (lv_at hl 1 rfl) ?_
    refine lv_if_eq (tgt := 141) hx hb dX6_findFitting_106 (by decide) (fun cq => ?_) (fun cq => ?_)
    · replace h := tp cq h
      exact J141 _ h _ _ hW _ (lv_sub hl [0] rfl)
    · replace h := tn cq h
      refine lv_aload_n hx hb dX6_findFitting_109 rfl (lv_at hl 0 rfl) ?_
      refine r_getr hC hW 5 (Nat.le_of_ble_eq_true rfl) rfl rfl rfl (by decide) inUX6 (hts _ wd_171) rfl dX6_findFitting_110 ?_
      refine lv_aload_n hx hb dX6_findFitting_113 rfl (lv_at hl 0 rfl) ?_
      refine r_getr hC hW 3 (Nat.le_of_ble_eq_true rfl) rfl rfl rfl (by decide) inUX6 (hts _ wd_182) rfl dX6_findFitting_114 ?_
      refine lv_aload_n hx hb dX6_findFitting_117 rfl (lv_at hl 0 rfl) ?_
      refine r_getr hC hW 0 (Nat.le_of_ble_eq_true rfl) rfl rfl rfl (by decide) inUX6 (hts _ wd_175) rfl dX6_findFitting_118 ?_
      refine r_getrN hC hW 0 (Nat.le_of_ble_eq_true rfl) rfl rfl rfl (by decide) inUX4 (hC.2.2.use nf_RX6_50 rfl) rfl dX6_findFitting_121 ?_
      replace h := bd h
      obtain ⟨σ4, hc, h⟩ := h
      refine r_callv hW (va_runVN (As := [.ref (ad 31), .ref (ad 2)]) (rest := []) hC.1 (c_X1_takeWeek l D cy ad A N _ _ hc) ⟨va_cnB 2 hts (gdN wd_183) rfl rfl rfl (NL.at hC.2.2 nw_RX6_267 rfl) (hts _ wd_73) (by decide +kernel) ⟨Nat.le_of_ble_eq_true rfl, Nat.le_of_ble_eq_true rfl⟩, hts _ wd_184, hts _ wd_185⟩ (r_preV hC hW (Nat.le_of_ble_eq_true rfl) rfl rfl) rfl rfl hl.1 rfl (lv_room (Nat.le_of_ble_eq_true rfl)) dX6_findFitting_124 ⟨Nat.zero_le _, Nat.zero_le _⟩) (fun H locs hWn => ?_)
      replace hW := hWn
      clear hWn hc
      refine lv_aload_n hx hb dX6_findFitting_127 rfl (lv_at hl 0 rfl) ?_
      refine r_getr hC hW 5 (Nat.le_of_ble_eq_true rfl) rfl rfl rfl (by decide) inUX6 (hts _ wd_171) rfl dX6_findFitting_128 ?_
      refine lv_aload_n hx hb dX6_findFitting_131 rfl (lv_at hl 0 rfl) ?_
      refine r_getr hC hW 0 (Nat.le_of_ble_eq_true rfl) rfl rfl rfl (by decide) inUX6 (hts _ wd_175) rfl dX6_findFitting_132 ?_
      refine r_getrN hC hW 1 (Nat.le_of_ble_eq_true rfl) rfl rfl rfl (by decide) inUX4 (hC.2.2.use nf_RX6_65 rfl) rfl dX6_findFitting_135 ?_
      replace h := bd h
      obtain ⟨σ5, hc, h⟩ := h
      refine r_callv hW (va_runVN (As := [.ref (ad 5)]) (rest := []) hC.1 (c_X1_takeSights l D cy ad A N _ _ hc) ⟨va_cnB 1 hts (gdN wd_186) rfl rfl rfl (NL.at hC.2.2 nw_RX6_271 rfl) (hts _ wd_73) (by decide +kernel) ⟨Nat.le_of_ble_eq_true rfl, Nat.le_of_ble_eq_true rfl⟩, hts _ wd_187, hts _ wd_188⟩ (r_preV hC hW (Nat.le_of_ble_eq_true rfl) rfl rfl) rfl rfl hl.1 rfl (lv_room (Nat.le_of_ble_eq_true rfl)) dX6_findFitting_138 ⟨Nat.zero_le _, Nat.zero_le _⟩) (fun H locs hWn => ?_)
      replace hW := hWn
      clear hWn hc
      exact J141 _ h _ _ hW _ (lv_sub hl [0] rfl)
  have J18 : ∀ (s0 : Int32) (σ : Hp), t_X6_findFitting_18 N s0 σ = some (r, σ') → ∀ (H : Heap) (locs : List Loc), Wd D cy 55 shX ad A s.heap σ H locs → ∀ ls : Array Slot, lv_has ls 2 [(0, .ref (ad 0))] → Gi p l e us_X6_findFitting ({ frames := 13, cells := 0, slots := 0, locals := 337 } : Room) s m [.ref (ad 0)] below meth c D cy 55 shX ad A r σ' H locs (F0 m 18 ls [.int s0]) := by
    intro s0 σ h H locs hW ls hl
    unfold t_X6_findFitting_18 at h
    refine lv_istore_n (lv' := [(1, .int s0), (0, .ref (ad 0))]) hx hb dX6_findFitting_18 rfl hl (by decide) rfl (fun ls hln => ?_)
    replace hl := hln
    clear hln
    refine lv_iload_n hx hb dX6_findFitting_19 rfl (lv_at hl 0 rfl) ?_
    refine lv_if_eq (tgt := 74) hx hb dX6_findFitting_20 (by decide) (fun cq => ?_) (fun cq => ?_)
    · replace h := tp cq h
      exact J74 _ _ h _ _ hW _ (lv_sub hl [1, 0] rfl)
    · replace h := tn cq h
      refine lv_aload_n hx hb dX6_findFitting_23 rfl (lv_at hl 1 rfl) ?_
      refine r_getr hC hW 3 (Nat.le_of_ble_eq_true rfl) rfl rfl rfl (by decide) inUX6 (hts _ wd_182) rfl dX6_findFitting_24 ?_
      refine lv_aload_n hx hb dX6_findFitting_27 rfl (lv_at hl 1 rfl) ?_
      refine r_getr hC hW 0 (Nat.le_of_ble_eq_true rfl) rfl rfl rfl (by decide) inUX6 (hts _ wd_175) rfl dX6_findFitting_28 ?_
      refine r_getrN hC hW 0 (Nat.le_of_ble_eq_true rfl) rfl rfl rfl (by decide) inUX4 (hC.2.2.use nf_RX6_50 rfl) rfl dX6_findFitting_31 ?_
      refine r_getiN hC hW 0 (Nat.le_of_ble_eq_true rfl) rfl rfl rfl (by decide) inUX0 (hC.2.2.use nf_RX6_61 rfl) rfl dX6_findFitting_34 ?_
      replace h := bd h
      obtain ⟨r6, hc, h⟩ := h
      refine r_calli hW (va_runVN (As := [.int (σ 2 0)]) (rest := []) hC.1 (c_X3_weekFault l D cy ad A N _ _ _ hc) ⟨va_cnB 1 hts (gdN wd_164) rfl rfl rfl (NL.at hC.2.2 nw_RX6_113 rfl) (hts _ wd_104) (by decide +kernel) ⟨Nat.le_of_ble_eq_true rfl, Nat.le_of_ble_eq_true rfl⟩, hts _ wd_165, hts _ wd_166⟩ (r_preV hC hW (Nat.le_of_ble_eq_true rfl) rfl rfl) rfl rfl hl.1 rfl (lv_room (Nat.le_of_ble_eq_true rfl)) dX6_findFitting_37 ⟨Nat.zero_le _, Nat.zero_le _⟩) (fun H locs hWn => ?_)
      replace hW := hWn
      clear hWn hc
      refine lv_bipush (v := (-6)) hx hb dX6_findFitting_40 (by decide) ?_
      refine lv_icmp_ne (tgt := 55) hx hb dX6_findFitting_42 (by decide) (fun cq => ?_) (fun cq => ?_)
      · replace h := tn cq h
        refine lv_bipush (v := (-5)) hx hb dX6_findFitting_55 (by decide) ?_
        exact r_iretW hC hr hlocks h hW dX6_findFitting_57
      · replace h := tp cq h
        refine lv_aload_n hx hb dX6_findFitting_45 rfl (lv_at hl 1 rfl) ?_
        refine r_getr hC hW 3 (Nat.le_of_ble_eq_true rfl) rfl rfl rfl (by decide) inUX6 (hts _ wd_182) rfl dX6_findFitting_46 ?_
        replace h := bd h
        obtain ⟨r7, hc, h⟩ := h
        refine r_calli hW (va_runVN (As := []) (rest := []) hC.1 (c_X3_eatsOrMends l D cy ad A N _ _ hc) ⟨va_cnB 0 hts (gdN wd_189) rfl rfl rfl (NL.at hC.2.2 nw_RX6_257 rfl) (hts _ wd_104) (by decide +kernel) ⟨Nat.le_of_ble_eq_true rfl, Nat.le_of_ble_eq_true rfl⟩, hts _ wd_190, hts _ wd_191⟩ (r_preV hC hW (Nat.le_of_ble_eq_true rfl) rfl rfl) rfl rfl hl.1 rfl (lv_room (Nat.le_of_ble_eq_true rfl)) dX6_findFitting_49 ⟨Nat.zero_le _, Nat.zero_le _⟩) (fun H locs hWn => ?_)
        replace hW := hWn
        clear hWn hc
        refine lv_if_eq (tgt := 58) hx hb dX6_findFitting_52 (by decide) (fun cq => ?_) (fun cq => ?_)
        · replace h := tp cq h
          refine lv_aload_n hx hb dX6_findFitting_58 rfl (lv_at hl 1 rfl) ?_
          refine r_getr hC hW 0 (Nat.le_of_ble_eq_true rfl) rfl rfl rfl (by decide) inUX6 (hts _ wd_175) rfl dX6_findFitting_59 ?_
          refine r_getrN hC hW 0 (Nat.le_of_ble_eq_true rfl) rfl rfl rfl (by decide) inUX4 (hC.2.2.use nf_RX6_50 rfl) rfl dX6_findFitting_62 ?_
          replace h := bd h
          obtain ⟨r8, hc, h⟩ := h
          refine r_calli hW (va_runVN (As := []) (rest := []) hC.1 (c_X0_areAllWhole l D cy ad A N 2 (c_coop 2 rfl) _ _ hc) ⟨va_cnB 0 hts (gdN wd_192) rfl rfl rfl (NL.at hC.2.2 nw_RX6_116 rfl) (hts _ wd_12) (by decide +kernel) ⟨Nat.le_of_ble_eq_true rfl, Nat.le_of_ble_eq_true rfl⟩, hts _ wd_193, hts _ wd_194⟩ (r_preV hC hW (Nat.le_of_ble_eq_true rfl) rfl rfl) rfl rfl hl.1 rfl (lv_room (Nat.le_of_ble_eq_true rfl)) dX6_findFitting_65 ⟨Nat.zero_le _, Nat.zero_le _⟩) (fun H locs hWn => ?_)
          replace hW := hWn
          clear hWn hc
          refine lv_if_ne (tgt := 74) hx hb dX6_findFitting_68 (by decide) (fun cq => ?_) (fun cq => ?_)
          · replace h := tn cq h
            exact J74 _ _ h _ _ hW _ (lv_sub hl [1, 0] rfl)
          · replace h := tp cq h
            refine lv_bipush (v := (-3)) hx hb dX6_findFitting_71 (by decide) ?_
            exact r_iretW hC hr hlocks h hW dX6_findFitting_73
        · replace h := tn cq h
          refine lv_bipush (v := (-5)) hx hb dX6_findFitting_55 (by decide) ?_
          exact r_iretW hC hr hlocks h hW dX6_findFitting_57
  refine lv_aload_n hx hb dX6_findFitting_0 rfl (lv_at hl 0 rfl) ?_
  refine r_getr hC hW 0 (Nat.le_of_ble_eq_true rfl) rfl rfl rfl (by decide) inUX6 (hts _ wd_175) rfl dX6_findFitting_1 ?_
  refine r_getrN hC hW 1 (Nat.le_of_ble_eq_true rfl) rfl rfl rfl (by decide) inUX4 (hC.2.2.use nf_RX6_65 rfl) rfl dX6_findFitting_4 ?_
  refine r_getiN hC hW 1 (Nat.le_of_ble_eq_true rfl) rfl rfl rfl (by decide) inUX2 (hC.2.2.use nf_RX6_74 rfl) rfl dX6_findFitting_7 ?_
  refine lv_if_le (tgt := 17) hx hb dX6_findFitting_10 (by decide) (fun cq => ?_) (fun cq => ?_)
  · replace h := tp cq h
    refine lv_iconst (v := 0) hx hb dX6_findFitting_17 (by decide) ?_
    exact J18 _ _ h _ _ hW _ (lv_sub hl [0] rfl)
  · replace h := tn cq h
    refine lv_iconst (v := 1) hx hb dX6_findFitting_13 (by decide) ?_
    refine lv_goto (tgt := 18) hx hb dX6_findFitting_14 (by decide) ?_
    exact J18 _ _ h _ _ hW _ (lv_sub hl [0] rfl)
set_option maxHeartbeats 4000000 in
set_option maxRecDepth 100000 in
theorem c_X6_ask (l : Launch) (D : va_G) (cy : ClassId × ClassId) (ad : Nat → Nat) (A : Nat → Prop) (N : Nat) (p0 : Int32) (σ : Hp) (r : Int32) (σ' : Hp) (h : t_X6_ask N p0 σ = some (r, σ')) : Ci l yX6_ask us_X6_ask ({ frames := 14, cells := 0, slots := 0, locals := 358 } : Room) D cy 55 shX ad A [.ref (ad 0), .int p0] σ r σ' := by
  unfold t_X6_ask at h
  refine Met.ofW (cc := cX6_ask) (maxL := 5) (ret := (some .int)) (by decide) rfl ?_
  intro p e s m args below meth c s₁ B hml hv
  obtain ⟨rfl, hP, hK, hD, hA, hN⟩ := hv
  have hx := B.exec
  have hb := B.bytes
  have hr := B.returns
  have hlocks := B.notSynchronized
  have hts : ∀ w ∈ wsU, w.before _ s = true := fun w h => atoms_spec (ws := us_X6_ask) B.pre w (List.mem_cons_of_mem _ h)
  have hown : s.vm.findClass RX6 = some m.cls := findClass_of_methodNamed B.named
  have hC : Cx p m c cX6_ask 5 s _ wsU RX6 D cy := ⟨⟨hx, hb, hml, hown, hts⟩, hK, hN⟩
  have hW : Wd D cy 55 shX ad A s.heap σ s.heap [] := ⟨hP, hD, va_S.rf, hA⟩
  have hl := lv_entry ([.ref (ad 0), .int p0]) (n := 5) (Nat.le_of_ble_eq_true rfl)
  rw [lg_entry_eq]
  generalize (lg_sl ([.ref (ad 0), .int p0]) ++ List.replicate (5 - (lg_sl ([.ref (ad 0), .int p0])).length) Slot.unset).toArray = ls at hl ⊢
  have hl : lv_has ls 5 [(0, .ref (ad 0)), (1, .int p0)] := hl
  have L41 : ∀ (f : Nat) (v1 : Int32) (v3 : Int32) (v4 : Int32) (σ : Hp), t_X6_ask_41 N f v1 v3 v4 σ = some (r, σ') → ∀ (H : Heap) (locs : List Loc), Wd D cy 55 shX ad A s.heap σ H locs → ∀ ls : Array Slot, lv_has ls 5 [(0, .ref (ad 0)), (1, .int v1), (3, .int v3), (4, .int v4)] → Gi p l e us_X6_ask ({ frames := 14, cells := 0, slots := 0, locals := 358 } : Room) s m [.ref (ad 0), .int p0] below meth c D cy 55 shX ad A r σ' H locs (F0 m 41 ls []) := by
    intro f
    unfold t_X6_ask_41
    refine loopG_ind (fun (T : Int32 → Int32 → Int32 → Hp → Option (Int32 × Hp)) => ∀ (v1 : Int32) (v3 : Int32) (v4 : Int32) (σ : Hp), T v1 v3 v4 σ = some (r, σ') → ∀ (H : Heap) (locs : List Loc), Wd D cy 55 shX ad A s.heap σ H locs → ∀ ls : Array Slot, lv_has ls 5 [(0, .ref (ad 0)), (1, .int v1), (3, .int v3), (4, .int v4)] → Gi p l e us_X6_ask ({ frames := 14, cells := 0, slots := 0, locals := 358 } : Room) s m [.ref (ad 0), .int p0] below meth c D cy 55 shX ad A r σ' H locs (F0 m 41 ls [])) ?_ ?_ f
    · intro v1 v3 v4 σ h; exact absurd h (by simp)
    · intro k41 ih41
      have J79 : ∀ (v1 : Int32) (v3 : Int32) (v4 : Int32) (σ : Hp), t_X6_ask_79 N k41 v1 v3 v4 σ = some (r, σ') → ∀ (H : Heap) (locs : List Loc), Wd D cy 55 shX ad A s.heap σ H locs → ∀ ls : Array Slot, lv_has ls 5 [(0, .ref (ad 0)), (1, .int v1), (3, .int v3), (4, .int v4)] → Gi p l e us_X6_ask ({ frames := 14, cells := 0, slots := 0, locals := 358 } : Room) s m [.ref (ad 0), .int p0] below meth c D cy 55 shX ad A r σ' H locs (F0 m 79 ls []) := by
        intro v1 v3 v4 σ h H locs hW ls hl
        unfold t_X6_ask_79 at h
        replace h := bx h
        obtain ⟨x1, ex1, h⟩ := h
        refine lv_iinc (v := x1) (lv' := [(4, .int x1), (0, .ref (ad 0)), (1, .int v1), (3, .int v3)]) hx hb dX6_ask_79 hl (k := 3) rfl (by rw [ex1]; rfl) (by decide) rfl (fun ls hln => ?_)
        replace hl := hln
        clear hln ex1
        refine lv_goto (tgt := 41) hx hb dX6_ask_82 (by decide) ?_
        exact ih41 _ _ _ _ h _ _ hW _ (lv_sub hl [1, 2, 3, 0] rfl)
      intro v1 v3 v4 σ h H locs hW ls hl
      refine lv_iload hx hb dX6_ask_41 (lv_at hl 3 rfl) ?_
      refine lv_aload_n hx hb dX6_ask_43 rfl (lv_at hl 0 rfl) ?_
      refine r_getr hC hW 0 (Nat.le_of_ble_eq_true rfl) rfl rfl rfl (by decide) inUX6 (hts _ wd_175) rfl dX6_ask_44 ?_
      refine r_getrN hC hW 0 (Nat.le_of_ble_eq_true rfl) rfl rfl rfl (by decide) inUX4 (hC.2.2.use nf_RX6_50 rfl) rfl dX6_ask_47 ?_
      refine r_getiN hC hW 0 (Nat.le_of_ble_eq_true rfl) rfl rfl rfl (by decide) inUX0 (hC.2.2.use nf_RX6_61 rfl) rfl dX6_ask_50 ?_
      refine lv_icmp_ge (tgt := 85) hx hb dX6_ask_53 (by decide) (fun cq => ?_) (fun cq => ?_)
      · replace h := tp cq h
        refine lv_iload_n hx hb dX6_ask_85 rfl (lv_at hl 1 rfl) ?_
        refine lv_if_ne (tgt := 93) hx hb dX6_ask_86 (by decide) (fun cq => ?_) (fun cq => ?_)
        · replace h := tn cq h
          refine lv_aload_n hx hb dX6_ask_93 rfl (lv_at hl 0 rfl) ?_
          refine r_getr hC hW 5 (Nat.le_of_ble_eq_true rfl) rfl rfl rfl (by decide) inUX6 (hts _ wd_171) rfl dX6_ask_94 ?_
          refine lv_iload_n hx hb dX6_ask_97 rfl (lv_at hl 2 rfl) ?_
          replace h := bd h
          obtain ⟨r2, hc, h⟩ := h
          refine r_calli hW (va_runVN (As := [.int v3]) (rest := []) hC.1 (c_X1_mostLeft l D cy ad A N _ _ _ hc) ⟨va_cnB 1 hts (gdN wd_195) rfl rfl rfl (NL.at hC.2.2 nw_RX6_194 rfl) (hts _ wd_73) (by decide +kernel) ⟨Nat.le_of_ble_eq_true rfl, Nat.le_of_ble_eq_true rfl⟩, hts _ wd_196, hts _ wd_197⟩ (r_preV hC hW (Nat.le_of_ble_eq_true rfl) rfl rfl) rfl rfl hl.1 rfl (lv_room (Nat.le_of_ble_eq_true rfl)) dX6_ask_98 ⟨Nat.zero_le _, Nat.zero_le _⟩) (fun H locs hWn => ?_)
          replace hW := hWn
          clear hWn hc
          exact r_iretW hC hr hlocks h hW dX6_ask_101
        · replace h := tp cq h
          refine lv_iload_n hx hb dX6_ask_89 rfl (lv_at hl 2 rfl) ?_
          refine lv_goto (tgt := 101) hx hb dX6_ask_90 (by decide) ?_
          exact r_iretW hC hr hlocks h hW dX6_ask_101
      · replace h := tn cq h
        refine lv_aload_n hx hb dX6_ask_56 rfl (lv_at hl 0 rfl) ?_
        refine r_getr hC hW 5 (Nat.le_of_ble_eq_true rfl) rfl rfl rfl (by decide) inUX6 (hts _ wd_171) rfl dX6_ask_57 ?_
        refine lv_iload hx hb dX6_ask_60 (lv_at hl 3 rfl) ?_
        replace h := bd h
        obtain ⟨r3, hc, h⟩ := h
        refine r_calli hW (va_runVN (As := [.int v4]) (rest := []) hC.1 (c_X1_mostLeft l D cy ad A N _ _ _ hc) ⟨va_cnB 1 hts (gdN wd_195) rfl rfl rfl (NL.at hC.2.2 nw_RX6_194 rfl) (hts _ wd_73) (by decide +kernel) ⟨Nat.le_of_ble_eq_true rfl, Nat.le_of_ble_eq_true rfl⟩, hts _ wd_196, hts _ wd_197⟩ (r_preV hC hW (Nat.le_of_ble_eq_true rfl) rfl rfl) rfl rfl hl.1 rfl (lv_room (Nat.le_of_ble_eq_true rfl)) dX6_ask_62 ⟨Nat.zero_le _, Nat.zero_le _⟩) (fun H locs hWn => ?_)
        replace hW := hWn
        clear hWn hc
        refine lv_aload_n hx hb dX6_ask_65 rfl (lv_at hl 0 rfl) ?_
        refine r_getr hC hW 5 (Nat.le_of_ble_eq_true rfl) rfl rfl rfl (by decide) inUX6 (hts _ wd_171) rfl dX6_ask_66 ?_
        refine lv_iload_n hx hb dX6_ask_69 rfl (lv_at hl 2 rfl) ?_
        replace h := bd h
        obtain ⟨r4, hc, h⟩ := h
        refine r_calli hW (va_runVN (As := [.int v3]) (rest := [.int r3]) hC.1 (c_X1_mostLeft l D cy ad A N _ _ _ hc) ⟨va_cnB 1 hts (gdN wd_195) rfl rfl rfl (NL.at hC.2.2 nw_RX6_194 rfl) (hts _ wd_73) (by decide +kernel) ⟨Nat.le_of_ble_eq_true rfl, Nat.le_of_ble_eq_true rfl⟩, hts _ wd_196, hts _ wd_197⟩ (r_preV hC hW (Nat.le_of_ble_eq_true rfl) rfl rfl) rfl rfl hl.1 rfl (lv_room (Nat.le_of_ble_eq_true rfl)) dX6_ask_70 ⟨Nat.zero_le _, Nat.zero_le _⟩) (fun H locs hWn => ?_)
        replace hW := hWn
        clear hWn hc
        refine lv_icmp_ge (tgt := 79) hx hb dX6_ask_73 (by decide) (fun cq => ?_) (fun cq => ?_)
        · replace h := tp cq h
          exact J79 _ _ _ _ h _ _ hW _ (lv_sub hl [0, 1, 2, 3] rfl)
        · replace h := tn cq h
          refine lv_iload hx hb dX6_ask_76 (lv_at hl 3 rfl) ?_
          refine lv_istore_n (lv' := [(3, .int v4), (0, .ref (ad 0)), (1, .int v1), (4, .int v4)]) hx hb dX6_ask_78 rfl hl (by decide) rfl (fun ls hln => ?_)
          replace hl := hln
          clear hln
          exact J79 _ _ _ _ h _ _ hW _ (lv_sub hl [1, 2, 0, 3] rfl)
  refine lv_iload_n hx hb dX6_ask_0 rfl (lv_at hl 1 rfl) ?_
  refine lv_iconst (v := 0) hx hb dX6_ask_1 (by decide) ?_
  refine lv_iconst (v := 1) hx hb dX6_ask_2 (by decide) ?_
  replace h := bd h
  obtain ⟨r5, hc, h⟩ := h
  refine r_calli hW (va_runS (As := [.int p0, .int 0, .int 1]) (rest := []) hC.1 (c_X6_isWithin l D cy ad A _ _ _ _ _ hc) (va_cwS 3 hts (gdS wd_101 wd_102 wd_5 wd_100) rfl rfl rfl (by decide +kernel) ⟨Nat.le_of_ble_eq_true rfl, Nat.le_of_ble_eq_true rfl⟩) (r_preS hC hW) rfl rfl hl.1 rfl (lv_room (Nat.le_of_ble_eq_true rfl)) dX6_ask_3 ⟨Nat.zero_le _, Nat.zero_le _⟩) (fun H locs hWn => ?_)
  replace hW := hWn
  clear hWn hc
  refine lv_if_ne (tgt := 12) hx hb dX6_ask_6 (by decide) (fun cq => ?_) (fun cq => ?_)
  · replace h := tn cq h
    refine lv_aload_n hx hb dX6_ask_12 rfl (lv_at hl 0 rfl) ?_
    replace h := ob h
    obtain ⟨r6, σ7, hc, h⟩ := h
    refine r_calli hW (va_runV (As := []) (rest := []) hC.1 (c_X6_findFitting l D cy ad A N _ _ _ hc) (cwV 0 hts (gdV wd_199 wd_200 wd_201 wd_5 wd_198) rfl rfl rfl (by decide +kernel) ⟨Nat.le_of_ble_eq_true rfl, Nat.le_of_ble_eq_true rfl⟩) (r_preV hC hW (Nat.le_of_ble_eq_true rfl) rfl rfl) rfl rfl hl.1 rfl (lv_room (Nat.le_of_ble_eq_true rfl)) dX6_ask_13 ⟨Nat.zero_le _, Nat.zero_le _⟩) (fun H locs hWn => ?_)
    replace hW := hWn
    clear hWn hc
    refine lv_istore_n (lv' := [(2, .int r6), (0, .ref (ad 0)), (1, .int p0)]) hx hb dX6_ask_16 rfl hl (by decide) rfl (fun ls hln => ?_)
    replace hl := hln
    clear hln
    refine lv_iload_n hx hb dX6_ask_17 rfl (lv_at hl 0 rfl) ?_
    refine lv_if_eq (tgt := 23) hx hb dX6_ask_18 (by decide) (fun cq => ?_) (fun cq => ?_)
    · replace h := tp cq h
      refine lv_aload_n hx hb dX6_ask_23 rfl (lv_at hl 1 rfl) ?_
      refine r_getr hC hW 5 (Nat.le_of_ble_eq_true rfl) rfl rfl rfl (by decide) inUX6 (hts _ wd_171) rfl dX6_ask_24 ?_
      refine r_getiN hC hW 1 (Nat.le_of_ble_eq_true rfl) rfl rfl rfl (by decide) inUX1 (hC.2.2.use nf_RX6_179 rfl) rfl dX6_ask_27 ?_
      refine lv_if_ne (tgt := 36) hx hb dX6_ask_30 (by decide) (fun cq => ?_) (fun cq => ?_)
      · replace h := tn cq h
        refine lv_iconst (v := 0) hx hb dX6_ask_36 (by decide) ?_
        refine lv_istore_n (lv' := [(3, .int 0), (2, .int r6), (0, .ref (ad 0)), (1, .int p0)]) hx hb dX6_ask_37 rfl hl (by decide) rfl (fun ls hln => ?_)
        replace hl := hln
        clear hln
        refine lv_iconst (v := 1) hx hb dX6_ask_38 (by decide) ?_
        refine lv_istore (lv' := [(4, .int 1), (3, .int 0), (2, .int r6), (0, .ref (ad 0)), (1, .int p0)]) hx hb dX6_ask_39 hl (by decide) rfl (fun ls hln => ?_)
        replace hl := hln
        clear hln
        exact L41 _ _ _ _ _ h _ _ hW _ (lv_sub hl [3, 4, 1, 0] rfl)
      · replace h := tp cq h
        refine lv_bipush (v := (-6)) hx hb dX6_ask_33 (by decide) ?_
        exact r_iretW hC hr hlocks h hW dX6_ask_35
    · replace h := tn cq h
      refine lv_iload_n hx hb dX6_ask_21 rfl (lv_at hl 0 rfl) ?_
      exact r_iretW hC hr hlocks h hW dX6_ask_22
  · replace h := tp cq h
    refine lv_bipush (v := (-2)) hx hb dX6_ask_9 (by decide) ?_
    exact r_iretW hC hr hlocks h hW dX6_ask_11
set_option maxHeartbeats 4000000 in
set_option maxRecDepth 100000 in
theorem c_X6_behind (l : Launch) (D : va_G) (cy : ClassId × ClassId) (ad : Nat → Nat) (A : Nat → Prop) (N : Nat) (p0 : Int32) (p1 : Int32) (σ : Hp) (r : Int32) (σ' : Hp) (h : t_X6_behind N p0 p1 σ = some (r, σ')) : Ci l yX6_behind us_X6_behind ({ frames := 6, cells := 0, slots := 0, locals := 137 } : Room) D cy 55 shX ad A [.ref (ad 0), .int p0, .int p1] σ r σ' := by
  unfold t_X6_behind at h
  refine Met.ofW (cc := cX6_behind) (maxL := 4) (ret := (some .int)) (by decide) rfl ?_
  intro p e s m args below meth c s₁ B hml hv
  obtain ⟨rfl, hP, hK, hD, hA, hN⟩ := hv
  have hx := B.exec
  have hb := B.bytes
  have hr := B.returns
  have hlocks := B.notSynchronized
  have hts : ∀ w ∈ wsU, w.before _ s = true := fun w h => atoms_spec (ws := us_X6_behind) B.pre w (List.mem_cons_of_mem _ h)
  have hown : s.vm.findClass RX6 = some m.cls := findClass_of_methodNamed B.named
  have hC : Cx p m c cX6_behind 4 s _ wsU RX6 D cy := ⟨⟨hx, hb, hml, hown, hts⟩, hK, hN⟩
  have hW : Wd D cy 55 shX ad A s.heap σ s.heap [] := ⟨hP, hD, va_S.rf, hA⟩
  have hl := lv_entry ([.ref (ad 0), .int p0, .int p1]) (n := 4) (Nat.le_of_ble_eq_true rfl)
  rw [lg_entry_eq]
  generalize (lg_sl ([.ref (ad 0), .int p0, .int p1]) ++ List.replicate (4 - (lg_sl ([.ref (ad 0), .int p0, .int p1])).length) Slot.unset).toArray = ls at hl ⊢
  have hl : lv_has ls 4 [(0, .ref (ad 0)), (1, .int p0), (2, .int p1)] := hl
  refine lv_aload_n hx hb dX6_behind_0 rfl (lv_at hl 0 rfl) ?_
  refine r_getr hC hW 0 (Nat.le_of_ble_eq_true rfl) rfl rfl rfl (by decide) inUX6 (hts _ wd_175) rfl dX6_behind_1 ?_
  refine r_getrN hC hW 0 (Nat.le_of_ble_eq_true rfl) rfl rfl rfl (by decide) inUX4 (hC.2.2.use nf_RX6_50 rfl) rfl dX6_behind_4 ?_
  refine lv_iload_n hx hb dX6_behind_7 rfl (lv_at hl 1 rfl) ?_
  replace h := bd h
  obtain ⟨r1, hc, h⟩ := h
  refine r_calli hW (va_runVN (As := [.int p0]) (rest := []) hC.1 (c_X0_has l D cy ad A 2 (c_coop 2 rfl) _ _ _ hc) ⟨va_cnB 1 hts (gdN wd_202) rfl rfl rfl (NL.at hC.2.2 nw_RX6_77 rfl) (hts _ wd_12) (by decide +kernel) ⟨Nat.le_of_ble_eq_true rfl, Nat.le_of_ble_eq_true rfl⟩, hts _ wd_203, hts _ wd_204⟩ (r_preV hC hW (Nat.le_of_ble_eq_true rfl) rfl rfl) rfl rfl hl.1 rfl (lv_room (Nat.le_of_ble_eq_true rfl)) dX6_behind_8 ⟨Nat.zero_le _, Nat.zero_le _⟩) (fun H locs hWn => ?_)
  replace hW := hWn
  clear hWn hc
  refine lv_if_ne (tgt := 16) hx hb dX6_behind_11 (by decide) (fun cq => ?_) (fun cq => ?_)
  · replace h := tn cq h
    refine lv_iload_n hx hb dX6_behind_16 rfl (lv_at hl 2 rfl) ?_
    refine lv_iconst (v := 0) hx hb dX6_behind_17 (by decide) ?_
    refine lv_iconst (v := 2) hx hb dX6_behind_18 (by decide) ?_
    replace h := bd h
    obtain ⟨r2, hc, h⟩ := h
    refine r_calli hW (va_runS (As := [.int p1, .int 0, .int 2]) (rest := []) hC.1 (c_X6_isWithin l D cy ad A _ _ _ _ _ hc) (va_cwS 3 hts (gdS wd_101 wd_102 wd_5 wd_100) rfl rfl rfl (by decide +kernel) ⟨Nat.le_of_ble_eq_true rfl, Nat.le_of_ble_eq_true rfl⟩) (r_preS hC hW) rfl rfl hl.1 rfl (lv_room (Nat.le_of_ble_eq_true rfl)) dX6_behind_19 ⟨Nat.zero_le _, Nat.zero_le _⟩) (fun H locs hWn => ?_)
    replace hW := hWn
    clear hWn hc
    refine lv_if_ne (tgt := 28) hx hb dX6_behind_22 (by decide) (fun cq => ?_) (fun cq => ?_)
    · replace h := tn cq h
      refine lv_aload_n hx hb dX6_behind_28 rfl (lv_at hl 0 rfl) ?_
      refine r_getr hC hW 4 (Nat.le_of_ble_eq_true rfl) rfl rfl rfl (by decide) inUX6 (hts _ wd_205) rfl dX6_behind_29 ?_
      refine lv_aload_n hx hb dX6_behind_32 rfl (lv_at hl 0 rfl) ?_
      refine r_getr hC hW 3 (Nat.le_of_ble_eq_true rfl) rfl rfl rfl (by decide) inUX6 (hts _ wd_182) rfl dX6_behind_33 ?_
      refine lv_aload_n hx hb dX6_behind_36 rfl (lv_at hl 0 rfl) ?_
      refine r_getr hC hW 0 (Nat.le_of_ble_eq_true rfl) rfl rfl rfl (by decide) inUX6 (hts _ wd_175) rfl dX6_behind_37 ?_
      refine r_getrN hC hW 0 (Nat.le_of_ble_eq_true rfl) rfl rfl rfl (by decide) inUX4 (hC.2.2.use nf_RX6_50 rfl) rfl dX6_behind_40 ?_
      replace h := ob h
      obtain ⟨r3, σ4, hc, h⟩ := h
      refine r_calli hW (va_runVN (As := [.ref (ad 31), .ref (ad 2)]) (rest := []) hC.1 (c_X5_run l D cy ad A N _ _ _ hc) ⟨va_cnB 2 hts (gdN wd_206) rfl rfl rfl (NL.at hC.2.2 nw_RX6_131 rfl) (hts _ wd_159) (by decide +kernel) ⟨Nat.le_of_ble_eq_true rfl, Nat.le_of_ble_eq_true rfl⟩, hts _ wd_207, hts _ wd_208⟩ (r_preV hC hW (Nat.le_of_ble_eq_true rfl) rfl rfl) rfl rfl hl.1 rfl (lv_room (Nat.le_of_ble_eq_true rfl)) dX6_behind_43 ⟨Nat.zero_le _, Nat.zero_le _⟩) (fun H locs hWn => ?_)
      replace hW := hWn
      clear hWn hc
      refine lv_istore_n (lv' := [(3, .int r3), (0, .ref (ad 0)), (1, .int p0), (2, .int p1)]) hx hb dX6_behind_46 rfl hl (by decide) rfl (fun ls hln => ?_)
      replace hl := hln
      clear hln
      refine lv_iload_n hx hb dX6_behind_47 rfl (lv_at hl 0 rfl) ?_
      refine lv_if_eq (tgt := 55) hx hb dX6_behind_48 (by decide) (fun cq => ?_) (fun cq => ?_)
      · replace h := tp cq h
        refine lv_aload_n hx hb dX6_behind_55 rfl (lv_at hl 1 rfl) ?_
        refine r_getr hC hW 4 (Nat.le_of_ble_eq_true rfl) rfl rfl rfl (by decide) inUX6 (hts _ wd_205) rfl dX6_behind_56 ?_
        refine r_getrN hC hW 0 (Nat.le_of_ble_eq_true rfl) rfl rfl rfl (by decide) inUX5 (hC.2.2.use nf_RX6_147 rfl) rfl dX6_behind_59 ?_
        refine lv_iload_n hx hb dX6_behind_62 rfl (lv_at hl 2 rfl) ?_
        refine lv_iload_n hx hb dX6_behind_63 rfl (lv_at hl 3 rfl) ?_
        replace h := bd h
        obtain ⟨r5, hc, h⟩ := h
        refine r_calli hW (va_runVN (As := [.int p0, .int p1]) (rest := []) hC.1 (c_X0_condition l D cy ad A 34 (c_coop 34 rfl) _ _ _ _ hc) ⟨va_cnB 2 hts (gdN wd_209) rfl rfl rfl (NL.at hC.2.2 nw_RX6_148 rfl) (hts _ wd_12) (by decide +kernel) ⟨Nat.le_of_ble_eq_true rfl, Nat.le_of_ble_eq_true rfl⟩, hts _ wd_210, hts _ wd_211⟩ (r_preV hC hW (Nat.le_of_ble_eq_true rfl) rfl rfl) rfl rfl hl.1 rfl (lv_room (Nat.le_of_ble_eq_true rfl)) dX6_behind_64 ⟨Nat.zero_le _, Nat.zero_le _⟩) (fun H locs hWn => ?_)
        replace hW := hWn
        clear hWn hc
        exact r_iretW hC hr hlocks h hW dX6_behind_67
      · replace h := tn cq h
        refine lv_iload_n hx hb dX6_behind_51 rfl (lv_at hl 0 rfl) ?_
        refine lv_goto (tgt := 67) hx hb dX6_behind_52 (by decide) ?_
        exact r_iretW hC hr hlocks h hW dX6_behind_67
    · replace h := tp cq h
      refine lv_bipush (v := (-2)) hx hb dX6_behind_25 (by decide) ?_
      exact r_iretW hC hr hlocks h hW dX6_behind_27
  · replace h := tp cq h
    refine lv_iconst (v := (-1)) hx hb dX6_behind_14 (by decide) ?_
    exact r_iretW hC hr hlocks h hW dX6_behind_15
set_option maxHeartbeats 4000000 in
set_option maxRecDepth 100000 in
theorem c_X6_certain (l : Launch) (D : va_G) (cy : ClassId × ClassId) (ad : Nat → Nat) (A : Nat → Prop) (N : Nat) (p0 : Int32) (p1 : Int32) (σ : Hp) (r : Int32) (σ' : Hp) (h : t_X6_certain N p0 p1 σ = some (r, σ')) : Ci l yX6_certain us_X6_certain ({ frames := 14, cells := 0, slots := 0, locals := 358 } : Room) D cy 55 shX ad A [.ref (ad 0), .int p0, .int p1] σ r σ' := by
  unfold t_X6_certain at h
  refine Met.ofW (cc := cX6_certain) (maxL := 4) (ret := (some .int)) (by decide) rfl ?_
  intro p e s m args below meth c s₁ B hml hv
  obtain ⟨rfl, hP, hK, hD, hA, hN⟩ := hv
  have hx := B.exec
  have hb := B.bytes
  have hr := B.returns
  have hlocks := B.notSynchronized
  have hts : ∀ w ∈ wsU, w.before _ s = true := fun w h => atoms_spec (ws := us_X6_certain) B.pre w (List.mem_cons_of_mem _ h)
  have hown : s.vm.findClass RX6 = some m.cls := findClass_of_methodNamed B.named
  have hC : Cx p m c cX6_certain 4 s _ wsU RX6 D cy := ⟨⟨hx, hb, hml, hown, hts⟩, hK, hN⟩
  have hW : Wd D cy 55 shX ad A s.heap σ s.heap [] := ⟨hP, hD, va_S.rf, hA⟩
  have hl := lv_entry ([.ref (ad 0), .int p0, .int p1]) (n := 4) (Nat.le_of_ble_eq_true rfl)
  rw [lg_entry_eq]
  generalize (lg_sl ([.ref (ad 0), .int p0, .int p1]) ++ List.replicate (4 - (lg_sl ([.ref (ad 0), .int p0, .int p1])).length) Slot.unset).toArray = ls at hl ⊢
  have hl : lv_has ls 4 [(0, .ref (ad 0)), (1, .int p0), (2, .int p1)] := hl
  refine lv_aload_n hx hb dX6_certain_0 rfl (lv_at hl 0 rfl) ?_
  refine r_getr hC hW 0 (Nat.le_of_ble_eq_true rfl) rfl rfl rfl (by decide) inUX6 (hts _ wd_175) rfl dX6_certain_1 ?_
  refine r_getrN hC hW 0 (Nat.le_of_ble_eq_true rfl) rfl rfl rfl (by decide) inUX4 (hC.2.2.use nf_RX6_50 rfl) rfl dX6_certain_4 ?_
  refine lv_iload_n hx hb dX6_certain_7 rfl (lv_at hl 1 rfl) ?_
  replace h := bd h
  obtain ⟨r1, hc, h⟩ := h
  refine r_calli hW (va_runVN (As := [.int p0]) (rest := []) hC.1 (c_X0_has l D cy ad A 2 (c_coop 2 rfl) _ _ _ hc) ⟨va_cnB 1 hts (gdN wd_202) rfl rfl rfl (NL.at hC.2.2 nw_RX6_77 rfl) (hts _ wd_12) (by decide +kernel) ⟨Nat.le_of_ble_eq_true rfl, Nat.le_of_ble_eq_true rfl⟩, hts _ wd_203, hts _ wd_204⟩ (r_preV hC hW (Nat.le_of_ble_eq_true rfl) rfl rfl) rfl rfl hl.1 rfl (lv_room (Nat.le_of_ble_eq_true rfl)) dX6_certain_8 ⟨Nat.zero_le _, Nat.zero_le _⟩) (fun H locs hWn => ?_)
  replace hW := hWn
  clear hWn hc
  refine lv_if_eq (tgt := 33) hx hb dX6_certain_11 (by decide) (fun cq => ?_) (fun cq => ?_)
  · replace h := tp cq h
    refine lv_iconst (v := (-1)) hx hb dX6_certain_33 (by decide) ?_
    exact r_iretW hC hr hlocks h hW dX6_certain_34
  · replace h := tn cq h
    refine lv_aload_n hx hb dX6_certain_14 rfl (lv_at hl 0 rfl) ?_
    refine r_getr hC hW 0 (Nat.le_of_ble_eq_true rfl) rfl rfl rfl (by decide) inUX6 (hts _ wd_175) rfl dX6_certain_15 ?_
    refine r_getrN hC hW 0 (Nat.le_of_ble_eq_true rfl) rfl rfl rfl (by decide) inUX4 (hC.2.2.use nf_RX6_50 rfl) rfl dX6_certain_18 ?_
    refine lv_iload_n hx hb dX6_certain_21 rfl (lv_at hl 2 rfl) ?_
    replace h := bd h
    obtain ⟨r2, hc, h⟩ := h
    refine r_calli hW (va_runVN (As := [.int p1]) (rest := []) hC.1 (c_X0_has l D cy ad A 2 (c_coop 2 rfl) _ _ _ hc) ⟨va_cnB 1 hts (gdN wd_202) rfl rfl rfl (NL.at hC.2.2 nw_RX6_77 rfl) (hts _ wd_12) (by decide +kernel) ⟨Nat.le_of_ble_eq_true rfl, Nat.le_of_ble_eq_true rfl⟩, hts _ wd_203, hts _ wd_204⟩ (r_preV hC hW (Nat.le_of_ble_eq_true rfl) rfl rfl) rfl rfl hl.1 rfl (lv_room (Nat.le_of_ble_eq_true rfl)) dX6_certain_22 ⟨Nat.zero_le _, Nat.zero_le _⟩) (fun H locs hWn => ?_)
    replace hW := hWn
    clear hWn hc
    refine lv_if_eq (tgt := 33) hx hb dX6_certain_25 (by decide) (fun cq => ?_) (fun cq => ?_)
    · replace h := tp cq h
      refine lv_iconst (v := (-1)) hx hb dX6_certain_33 (by decide) ?_
      exact r_iretW hC hr hlocks h hW dX6_certain_34
    · replace h := tn cq h
      refine lv_iload_n hx hb dX6_certain_28 rfl (lv_at hl 1 rfl) ?_
      refine lv_iload_n hx hb dX6_certain_29 rfl (lv_at hl 2 rfl) ?_
      refine lv_icmp_ne (tgt := 35) hx hb dX6_certain_30 (by decide) (fun cq => ?_) (fun cq => ?_)
      · replace h := tn cq h
        refine lv_aload_n hx hb dX6_certain_35 rfl (lv_at hl 0 rfl) ?_
        replace h := ob h
        obtain ⟨r3, σ4, hc, h⟩ := h
        refine r_calli hW (va_runV (As := []) (rest := []) hC.1 (c_X6_findFitting l D cy ad A N _ _ _ hc) (cwV 0 hts (gdV wd_199 wd_200 wd_201 wd_5 wd_198) rfl rfl rfl (by decide +kernel) ⟨Nat.le_of_ble_eq_true rfl, Nat.le_of_ble_eq_true rfl⟩) (r_preV hC hW (Nat.le_of_ble_eq_true rfl) rfl rfl) rfl rfl hl.1 rfl (lv_room (Nat.le_of_ble_eq_true rfl)) dX6_certain_36 ⟨Nat.zero_le _, Nat.zero_le _⟩) (fun H locs hWn => ?_)
        replace hW := hWn
        clear hWn hc
        refine lv_istore_n (lv' := [(3, .int r3), (0, .ref (ad 0)), (1, .int p0), (2, .int p1)]) hx hb dX6_certain_39 rfl hl (by decide) rfl (fun ls hln => ?_)
        replace hl := hln
        clear hln
        refine lv_iload_n hx hb dX6_certain_40 rfl (lv_at hl 0 rfl) ?_
        refine lv_if_eq (tgt := 46) hx hb dX6_certain_41 (by decide) (fun cq => ?_) (fun cq => ?_)
        · replace h := tp cq h
          refine lv_aload_n hx hb dX6_certain_46 rfl (lv_at hl 1 rfl) ?_
          refine r_getr hC hW 5 (Nat.le_of_ble_eq_true rfl) rfl rfl rfl (by decide) inUX6 (hts _ wd_171) rfl dX6_certain_47 ?_
          refine r_getiN hC hW 1 (Nat.le_of_ble_eq_true rfl) rfl rfl rfl (by decide) inUX1 (hC.2.2.use nf_RX6_179 rfl) rfl dX6_certain_50 ?_
          refine lv_if_ne (tgt := 59) hx hb dX6_certain_53 (by decide) (fun cq => ?_) (fun cq => ?_)
          · replace h := tn cq h
            refine lv_aload_n hx hb dX6_certain_59 rfl (lv_at hl 1 rfl) ?_
            refine r_getr hC hW 5 (Nat.le_of_ble_eq_true rfl) rfl rfl rfl (by decide) inUX6 (hts _ wd_171) rfl dX6_certain_60 ?_
            refine r_getrN hC hW 5 (Nat.le_of_ble_eq_true rfl) rfl rfl rfl (by decide) inUX1 (hC.2.2.use nf_RX6_191 rfl) rfl dX6_certain_63 ?_
            refine lv_iload_n hx hb dX6_certain_66 rfl (lv_at hl 2 rfl) ?_
            replace h := bd h
            obtain ⟨r5, hc, h⟩ := h
            refine r_calli hW (va_runS (As := [.ref (ad 42), .int p0]) (rest := []) hC.1 (c_X6_at l D cy ad A 42 7 ⟨Nat.le_of_ble_eq_true rfl, rfl⟩ _ _ _ hc) (va_cwS 2 hts (gdS wd_212 wd_6 wd_5 wd_4) rfl rfl rfl (by decide +kernel) ⟨Nat.le_of_ble_eq_true rfl, Nat.le_of_ble_eq_true rfl⟩) (r_preS hC hW) rfl rfl hl.1 rfl (lv_room (Nat.le_of_ble_eq_true rfl)) dX6_certain_67 ⟨Nat.zero_le _, Nat.zero_le _⟩) (fun H locs hWn => ?_)
            replace hW := hWn
            clear hWn hc
            refine lv_iload_n hx hb dX6_certain_70 rfl (lv_at hl 3 rfl) ?_
            replace h := bd h
            obtain ⟨r6, hc, h⟩ := h
            refine r_calli hW (va_runS (As := [.int r5, .int p1]) (rest := []) hC.1 (c_X6_hasBit l D cy ad A _ _ _ _ hc) (va_cwS 2 hts (gdS wd_213 wd_32 wd_5 wd_31) rfl rfl rfl (by decide +kernel) ⟨Nat.le_of_ble_eq_true rfl, Nat.le_of_ble_eq_true rfl⟩) (r_preS hC hW) rfl rfl hl.1 rfl (lv_room (Nat.le_of_ble_eq_true rfl)) dX6_certain_71 ⟨Nat.zero_le _, Nat.zero_le _⟩) (fun H locs hWn => ?_)
            replace hW := hWn
            clear hWn hc
            refine lv_if_ne (tgt := 79) hx hb dX6_certain_74 (by decide) (fun cq => ?_) (fun cq => ?_)
            · replace h := tn cq h
              refine lv_aload_n hx hb dX6_certain_79 rfl (lv_at hl 1 rfl) ?_
              refine r_getr hC hW 5 (Nat.le_of_ble_eq_true rfl) rfl rfl rfl (by decide) inUX6 (hts _ wd_171) rfl dX6_certain_80 ?_
              refine r_getrN hC hW 5 (Nat.le_of_ble_eq_true rfl) rfl rfl rfl (by decide) inUX1 (hC.2.2.use nf_RX6_191 rfl) rfl dX6_certain_83 ?_
              refine lv_iload_n hx hb dX6_certain_86 rfl (lv_at hl 3 rfl) ?_
              replace h := bd h
              obtain ⟨r7, hc, h⟩ := h
              refine r_calli hW (va_runS (As := [.ref (ad 42), .int p1]) (rest := []) hC.1 (c_X6_at l D cy ad A 42 7 ⟨Nat.le_of_ble_eq_true rfl, rfl⟩ _ _ _ hc) (va_cwS 2 hts (gdS wd_212 wd_6 wd_5 wd_4) rfl rfl rfl (by decide +kernel) ⟨Nat.le_of_ble_eq_true rfl, Nat.le_of_ble_eq_true rfl⟩) (r_preS hC hW) rfl rfl hl.1 rfl (lv_room (Nat.le_of_ble_eq_true rfl)) dX6_certain_87 ⟨Nat.zero_le _, Nat.zero_le _⟩) (fun H locs hWn => ?_)
              replace hW := hWn
              clear hWn hc
              refine lv_iload_n hx hb dX6_certain_90 rfl (lv_at hl 2 rfl) ?_
              replace h := bd h
              obtain ⟨r8, hc, h⟩ := h
              refine r_calli hW (va_runS (As := [.int r7, .int p0]) (rest := []) hC.1 (c_X6_hasBit l D cy ad A _ _ _ _ hc) (va_cwS 2 hts (gdS wd_213 wd_32 wd_5 wd_31) rfl rfl rfl (by decide +kernel) ⟨Nat.le_of_ble_eq_true rfl, Nat.le_of_ble_eq_true rfl⟩) (r_preS hC hW) rfl rfl hl.1 rfl (lv_room (Nat.le_of_ble_eq_true rfl)) dX6_certain_91 ⟨Nat.zero_le _, Nat.zero_le _⟩) (fun H locs hWn => ?_)
              replace hW := hWn
              clear hWn hc
              refine lv_if_eq (tgt := 101) hx hb dX6_certain_94 (by decide) (fun cq => ?_) (fun cq => ?_)
              · replace h := tp cq h
                refine lv_iconst (v := 2) hx hb dX6_certain_101 (by decide) ?_
                exact r_iretW hC hr hlocks h hW dX6_certain_102
              · replace h := tn cq h
                refine lv_iconst (v := 0) hx hb dX6_certain_97 (by decide) ?_
                refine lv_goto (tgt := 102) hx hb dX6_certain_98 (by decide) ?_
                exact r_iretW hC hr hlocks h hW dX6_certain_102
            · replace h := tp cq h
              refine lv_iconst (v := 1) hx hb dX6_certain_77 (by decide) ?_
              exact r_iretW hC hr hlocks h hW dX6_certain_78
          · replace h := tp cq h
            refine lv_bipush (v := (-6)) hx hb dX6_certain_56 (by decide) ?_
            exact r_iretW hC hr hlocks h hW dX6_certain_58
        · replace h := tn cq h
          refine lv_iload_n hx hb dX6_certain_44 rfl (lv_at hl 0 rfl) ?_
          exact r_iretW hC hr hlocks h hW dX6_certain_45
      · replace h := tp cq h
        refine lv_iconst (v := (-1)) hx hb dX6_certain_33 (by decide) ?_
        exact r_iretW hC hr hlocks h hW dX6_certain_34
set_option maxHeartbeats 4000000 in
set_option maxRecDepth 100000 in
theorem c_X6_clue (l : Launch) (D : va_G) (cy : ClassId × ClassId) (ad : Nat → Nat) (A : Nat → Prop) (p0 : Int32) (p1 : Int32) (p2 : Int32) (σ : Hp) (r : Int32) (σ' : Hp) (h : t_X6_clue p0 p1 p2 σ = some (r, σ')) : Ci l yX6_clue us_X6_clue ({ frames := 2, cells := 0, slots := 0, locals := 45 } : Room) D cy 55 shX ad A [.ref (ad 0), .int p0, .int p1, .int p2] σ r σ' := by
  unfold t_X6_clue at h
  refine Met.ofW (cc := cX6_clue) (maxL := 5) (ret := (some .int)) (by decide) rfl ?_
  intro p e s m args below meth c s₁ B hml hv
  obtain ⟨rfl, hP, hK, hD, hA, hN⟩ := hv
  have hx := B.exec
  have hb := B.bytes
  have hr := B.returns
  have hlocks := B.notSynchronized
  have hts : ∀ w ∈ wsU, w.before _ s = true := fun w h => atoms_spec (ws := us_X6_clue) B.pre w (List.mem_cons_of_mem _ h)
  have hown : s.vm.findClass RX6 = some m.cls := findClass_of_methodNamed B.named
  have hC : Cx p m c cX6_clue 5 s _ wsU RX6 D cy := ⟨⟨hx, hb, hml, hown, hts⟩, hK, hN⟩
  have hW : Wd D cy 55 shX ad A s.heap σ s.heap [] := ⟨hP, hD, va_S.rf, hA⟩
  have hl := lv_entry ([.ref (ad 0), .int p0, .int p1, .int p2]) (n := 5) (Nat.le_of_ble_eq_true rfl)
  rw [lg_entry_eq]
  generalize (lg_sl ([.ref (ad 0), .int p0, .int p1, .int p2]) ++ List.replicate (5 - (lg_sl ([.ref (ad 0), .int p0, .int p1, .int p2])).length) Slot.unset).toArray = ls at hl ⊢
  have hl : lv_has ls 5 [(0, .ref (ad 0)), (1, .int p0), (2, .int p1), (3, .int p2)] := hl
  have J98 : ∀ (v1 : Int32) (v2 : Int32) (v3 : Int32) (σ : Hp), t_X6_clue_98 v1 v2 v3 σ = some (r, σ') → ∀ (H : Heap) (locs : List Loc), Wd D cy 55 shX ad A s.heap σ H locs → ∀ ls : Array Slot, lv_has ls 5 [(0, .ref (ad 0)), (1, .int v1), (2, .int v2), (3, .int v3)] → Gi p l e us_X6_clue ({ frames := 2, cells := 0, slots := 0, locals := 45 } : Room) s m [.ref (ad 0), .int p0, .int p1, .int p2] below meth c D cy 55 shX ad A r σ' H locs (F0 m 98 ls []) := by
    intro v1 v2 v3 σ h H locs hW ls hl
    unfold t_X6_clue_98 at h
    refine lv_aload_n hx hb dX6_clue_98 rfl (lv_at hl 0 rfl) ?_
    refine r_getr hC hW 0 (Nat.le_of_ble_eq_true rfl) rfl rfl rfl (by decide) inUX6 (hts _ wd_175) rfl dX6_clue_99 ?_
    refine r_getrN hC hW 1 (Nat.le_of_ble_eq_true rfl) rfl rfl rfl (by decide) inUX4 (hC.2.2.use nf_RX6_65 rfl) rfl dX6_clue_102 ?_
    refine r_getiN hC hW 0 (Nat.le_of_ble_eq_true rfl) rfl rfl rfl (by decide) inUX2 (hC.2.2.use nf_RX6_69 rfl) rfl dX6_clue_105 ?_
    refine lv_bipush (v := 12) hx hb dX6_clue_108 (by decide) ?_
    refine lv_icmp_lt (tgt := 116) hx hb dX6_clue_110 (by decide) (fun cq => ?_) (fun cq => ?_)
    · replace h := tp cq h
      refine lv_aload_n hx hb dX6_clue_116 rfl (lv_at hl 0 rfl) ?_
      refine r_getr hC hW 0 (Nat.le_of_ble_eq_true rfl) rfl rfl rfl (by decide) inUX6 (hts _ wd_175) rfl dX6_clue_117 ?_
      refine r_getrN hC hW 1 (Nat.le_of_ble_eq_true rfl) rfl rfl rfl (by decide) inUX4 (hC.2.2.use nf_RX6_65 rfl) rfl dX6_clue_120 ?_
      refine lv_iload_n hx hb dX6_clue_123 rfl (lv_at hl 1 rfl) ?_
      refine lv_iload_n hx hb dX6_clue_124 rfl (lv_at hl 2 rfl) ?_
      refine lv_iload_n hx hb dX6_clue_125 rfl (lv_at hl 3 rfl) ?_
      replace h := bd h
      obtain ⟨σ1, hc, h⟩ := h
      refine r_callv hW (va_runVN (As := [.int v1, .int v2, .int v3]) (rest := []) hC.1 (c_X2_addClue l D cy ad A 5 (c_hints 5 rfl) _ _ _ _ _ hc) ⟨va_cnB 3 hts (gdN wd_214) rfl rfl rfl (NL.at hC.2.2 nw_RX6_169 rfl) (hts _ wd_139) (by decide +kernel) ⟨Nat.le_of_ble_eq_true rfl, Nat.le_of_ble_eq_true rfl⟩, hts _ wd_215, hts _ wd_216⟩ (r_preV hC hW (Nat.le_of_ble_eq_true rfl) rfl rfl) rfl rfl hl.1 rfl (lv_room (Nat.le_of_ble_eq_true rfl)) dX6_clue_126 ⟨Nat.zero_le _, Nat.zero_le _⟩) (fun H locs hWn => ?_)
      replace hW := hWn
      clear hWn hc
      refine lv_aload_n hx hb dX6_clue_129 rfl (lv_at hl 0 rfl) ?_
      refine r_getr hC hW 0 (Nat.le_of_ble_eq_true rfl) rfl rfl rfl (by decide) inUX6 (hts _ wd_175) rfl dX6_clue_130 ?_
      refine r_getrN hC hW 1 (Nat.le_of_ble_eq_true rfl) rfl rfl rfl (by decide) inUX4 (hC.2.2.use nf_RX6_65 rfl) rfl dX6_clue_133 ?_
      refine r_getiN hC hW 0 (Nat.le_of_ble_eq_true rfl) rfl rfl rfl (by decide) inUX2 (hC.2.2.use nf_RX6_69 rfl) rfl dX6_clue_136 ?_
      exact r_iretW hC hr hlocks h hW dX6_clue_139
    · replace h := tn cq h
      refine lv_bipush (v := (-4)) hx hb dX6_clue_113 (by decide) ?_
      exact r_iretW hC hr hlocks h hW dX6_clue_115
  have J70 : ∀ (v1 : Int32) (v2 : Int32) (v3 : Int32) (v4 : Int32) (σ : Hp), t_X6_clue_70 v1 v2 v3 v4 σ = some (r, σ') → ∀ (H : Heap) (locs : List Loc), Wd D cy 55 shX ad A s.heap σ H locs → ∀ ls : Array Slot, lv_has ls 5 [(0, .ref (ad 0)), (1, .int v1), (2, .int v2), (3, .int v3), (4, .int v4)] → Gi p l e us_X6_clue ({ frames := 2, cells := 0, slots := 0, locals := 45 } : Room) s m [.ref (ad 0), .int p0, .int p1, .int p2] below meth c D cy 55 shX ad A r σ' H locs (F0 m 70 ls []) := by
    intro v1 v2 v3 v4 σ h H locs hW ls hl
    unfold t_X6_clue_70 at h
    refine lv_iload hx hb dX6_clue_70 (lv_at hl 4 rfl) ?_
    refine lv_if_ne (tgt := 98) hx hb dX6_clue_72 (by decide) (fun cq => ?_) (fun cq => ?_)
    · replace h := tn cq h
      exact J98 _ _ _ _ h _ _ hW _ (lv_sub hl [0, 1, 2, 3] rfl)
    · replace h := tp cq h
      refine lv_iload_n hx hb dX6_clue_75 rfl (lv_at hl 3 rfl) ?_
      refine lv_iconst (v := 0) hx hb dX6_clue_76 (by decide) ?_
      refine lv_aload_n hx hb dX6_clue_77 rfl (lv_at hl 0 rfl) ?_
      refine r_getr hC hW 0 (Nat.le_of_ble_eq_true rfl) rfl rfl rfl (by decide) inUX6 (hts _ wd_175) rfl dX6_clue_78 ?_
      refine r_getrN hC hW 0 (Nat.le_of_ble_eq_true rfl) rfl rfl rfl (by decide) inUX4 (hC.2.2.use nf_RX6_50 rfl) rfl dX6_clue_81 ?_
      refine r_getiN hC hW 0 (Nat.le_of_ble_eq_true rfl) rfl rfl rfl (by decide) inUX0 (hC.2.2.use nf_RX6_61 rfl) rfl dX6_clue_84 ?_
      refine lv_iconst (v := 1) hx hb dX6_clue_87 (by decide) ?_
      refine lv_isub hx hb dX6_clue_88 ?_
      replace h := bd h
      obtain ⟨r2, hc, h⟩ := h
      refine r_calli hW (va_runS (As := [.int v3, .int 0, .int ((σ 2 0) - 1)]) (rest := []) hC.1 (c_X6_isWithin l D cy ad A _ _ _ _ _ hc) (va_cwS 3 hts (gdS wd_101 wd_102 wd_5 wd_100) rfl rfl rfl (by decide +kernel) ⟨Nat.le_of_ble_eq_true rfl, Nat.le_of_ble_eq_true rfl⟩) (r_preS hC hW) rfl rfl hl.1 rfl (lv_room (Nat.le_of_ble_eq_true rfl)) dX6_clue_89 ⟨Nat.zero_le _, Nat.zero_le _⟩) (fun H locs hWn => ?_)
      replace hW := hWn
      clear hWn hc
      refine lv_if_ne (tgt := 98) hx hb dX6_clue_92 (by decide) (fun cq => ?_) (fun cq => ?_)
      · replace h := tn cq h
        exact J98 _ _ _ _ h _ _ hW _ (lv_sub hl [0, 1, 2, 3] rfl)
      · replace h := tp cq h
        refine lv_bipush (v := (-2)) hx hb dX6_clue_95 (by decide) ?_
        exact r_iretW hC hr hlocks h hW dX6_clue_97
  have J42 : ∀ (v1 : Int32) (v2 : Int32) (v3 : Int32) (s0 : Int32) (σ : Hp), t_X6_clue_42 v1 v2 v3 s0 σ = some (r, σ') → ∀ (H : Heap) (locs : List Loc), Wd D cy 55 shX ad A s.heap σ H locs → ∀ ls : Array Slot, lv_has ls 5 [(0, .ref (ad 0)), (1, .int v1), (2, .int v2), (3, .int v3)] → Gi p l e us_X6_clue ({ frames := 2, cells := 0, slots := 0, locals := 45 } : Room) s m [.ref (ad 0), .int p0, .int p1, .int p2] below meth c D cy 55 shX ad A r σ' H locs (F0 m 42 ls [.int s0]) := by
    intro v1 v2 v3 s0 σ h H locs hW ls hl
    unfold t_X6_clue_42 at h
    refine lv_istore (lv' := [(4, .int s0), (0, .ref (ad 0)), (1, .int v1), (2, .int v2), (3, .int v3)]) hx hb dX6_clue_42 hl (by decide) rfl (fun ls hln => ?_)
    replace hl := hln
    clear hln
    refine lv_iload hx hb dX6_clue_44 (lv_at hl 0 rfl) ?_
    refine lv_if_eq (tgt := 70) hx hb dX6_clue_46 (by decide) (fun cq => ?_) (fun cq => ?_)
    · replace h := tp cq h
      exact J70 _ _ _ _ _ h _ _ hW _ (lv_sub hl [1, 2, 3, 4, 0] rfl)
    · replace h := tn cq h
      refine lv_aload_n hx hb dX6_clue_49 rfl (lv_at hl 1 rfl) ?_
      refine r_getr hC hW 0 (Nat.le_of_ble_eq_true rfl) rfl rfl rfl (by decide) inUX6 (hts _ wd_175) rfl dX6_clue_50 ?_
      refine r_getrN hC hW 0 (Nat.le_of_ble_eq_true rfl) rfl rfl rfl (by decide) inUX4 (hC.2.2.use nf_RX6_50 rfl) rfl dX6_clue_53 ?_
      refine lv_iload_n hx hb dX6_clue_56 rfl (lv_at hl 4 rfl) ?_
      replace h := bd h
      obtain ⟨r3, hc, h⟩ := h
      refine r_calli hW (va_runVN (As := [.int v3]) (rest := []) hC.1 (c_X0_has l D cy ad A 2 (c_coop 2 rfl) _ _ _ hc) ⟨va_cnB 1 hts (gdN wd_202) rfl rfl rfl (NL.at hC.2.2 nw_RX6_77 rfl) (hts _ wd_12) (by decide +kernel) ⟨Nat.le_of_ble_eq_true rfl, Nat.le_of_ble_eq_true rfl⟩, hts _ wd_203, hts _ wd_204⟩ (r_preV hC hW (Nat.le_of_ble_eq_true rfl) rfl rfl) rfl rfl hl.1 rfl (lv_room (Nat.le_of_ble_eq_true rfl)) dX6_clue_57 ⟨Nat.zero_le _, Nat.zero_le _⟩) (fun H locs hWn => ?_)
      replace hW := hWn
      clear hWn hc
      refine lv_if_eq (tgt := 68) hx hb dX6_clue_60 (by decide) (fun cq => ?_) (fun cq => ?_)
      · replace h := tp cq h
        refine lv_iconst (v := (-1)) hx hb dX6_clue_68 (by decide) ?_
        exact r_iretW hC hr hlocks h hW dX6_clue_69
      · replace h := tn cq h
        refine lv_iload_n hx hb dX6_clue_63 rfl (lv_at hl 4 rfl) ?_
        refine lv_iload_n hx hb dX6_clue_64 rfl (lv_at hl 3 rfl) ?_
        refine lv_icmp_ne (tgt := 70) hx hb dX6_clue_65 (by decide) (fun cq => ?_) (fun cq => ?_)
        · replace h := tn cq h
          exact J70 _ _ _ _ _ h _ _ hW _ (lv_sub hl [1, 2, 3, 4, 0] rfl)
        · replace h := tp cq h
          refine lv_iconst (v := (-1)) hx hb dX6_clue_68 (by decide) ?_
          exact r_iretW hC hr hlocks h hW dX6_clue_69
  have J37 : ∀ (v1 : Int32) (v2 : Int32) (v3 : Int32) (σ : Hp), t_X6_clue_37 v1 v2 v3 σ = some (r, σ') → ∀ (H : Heap) (locs : List Loc), Wd D cy 55 shX ad A s.heap σ H locs → ∀ ls : Array Slot, lv_has ls 5 [(0, .ref (ad 0)), (1, .int v1), (2, .int v2), (3, .int v3)] → Gi p l e us_X6_clue ({ frames := 2, cells := 0, slots := 0, locals := 45 } : Room) s m [.ref (ad 0), .int p0, .int p1, .int p2] below meth c D cy 55 shX ad A r σ' H locs (F0 m 37 ls []) := by
    intro v1 v2 v3 σ h H locs hW ls hl
    unfold t_X6_clue_37 at h
    refine lv_iconst (v := 1) hx hb dX6_clue_37 (by decide) ?_
    refine lv_goto (tgt := 42) hx hb dX6_clue_38 (by decide) ?_
    exact J42 _ _ _ _ _ h _ _ hW _ (lv_sub hl [0, 1, 2, 3] rfl)
  refine lv_iload_n hx hb dX6_clue_0 rfl (lv_at hl 1 rfl) ?_
  refine lv_iconst (v := 0) hx hb dX6_clue_1 (by decide) ?_
  refine lv_iconst (v := 3) hx hb dX6_clue_2 (by decide) ?_
  replace h := bd h
  obtain ⟨r4, hc, h⟩ := h
  refine r_calli hW (va_runS (As := [.int p0, .int 0, .int 3]) (rest := []) hC.1 (c_X6_isWithin l D cy ad A _ _ _ _ _ hc) (va_cwS 3 hts (gdS wd_101 wd_102 wd_5 wd_100) rfl rfl rfl (by decide +kernel) ⟨Nat.le_of_ble_eq_true rfl, Nat.le_of_ble_eq_true rfl⟩) (r_preS hC hW) rfl rfl hl.1 rfl (lv_room (Nat.le_of_ble_eq_true rfl)) dX6_clue_3 ⟨Nat.zero_le _, Nat.zero_le _⟩) (fun H locs hWn => ?_)
  replace hW := hWn
  clear hWn hc
  refine lv_if_ne (tgt := 12) hx hb dX6_clue_6 (by decide) (fun cq => ?_) (fun cq => ?_)
  · replace h := tn cq h
    refine lv_aload_n hx hb dX6_clue_12 rfl (lv_at hl 0 rfl) ?_
    refine r_getr hC hW 0 (Nat.le_of_ble_eq_true rfl) rfl rfl rfl (by decide) inUX6 (hts _ wd_175) rfl dX6_clue_13 ?_
    refine r_getrN hC hW 0 (Nat.le_of_ble_eq_true rfl) rfl rfl rfl (by decide) inUX4 (hC.2.2.use nf_RX6_50 rfl) rfl dX6_clue_16 ?_
    refine lv_iload_n hx hb dX6_clue_19 rfl (lv_at hl 2 rfl) ?_
    replace h := bd h
    obtain ⟨r5, hc, h⟩ := h
    refine r_calli hW (va_runVN (As := [.int p1]) (rest := []) hC.1 (c_X0_has l D cy ad A 2 (c_coop 2 rfl) _ _ _ hc) ⟨va_cnB 1 hts (gdN wd_202) rfl rfl rfl (NL.at hC.2.2 nw_RX6_77 rfl) (hts _ wd_12) (by decide +kernel) ⟨Nat.le_of_ble_eq_true rfl, Nat.le_of_ble_eq_true rfl⟩, hts _ wd_203, hts _ wd_204⟩ (r_preV hC hW (Nat.le_of_ble_eq_true rfl) rfl rfl) rfl rfl hl.1 rfl (lv_room (Nat.le_of_ble_eq_true rfl)) dX6_clue_20 ⟨Nat.zero_le _, Nat.zero_le _⟩) (fun H locs hWn => ?_)
    replace hW := hWn
    clear hWn hc
    refine lv_if_ne (tgt := 28) hx hb dX6_clue_23 (by decide) (fun cq => ?_) (fun cq => ?_)
    · replace h := tn cq h
      refine lv_iload_n hx hb dX6_clue_28 rfl (lv_at hl 1 rfl) ?_
      refine lv_if_eq (tgt := 37) hx hb dX6_clue_29 (by decide) (fun cq => ?_) (fun cq => ?_)
      · replace h := tp cq h
        exact J37 _ _ _ _ h _ _ hW _ (lv_sub hl [0, 1, 2, 3] rfl)
      · replace h := tn cq h
        refine lv_iload_n hx hb dX6_clue_32 rfl (lv_at hl 1 rfl) ?_
        refine lv_iconst (v := 1) hx hb dX6_clue_33 (by decide) ?_
        refine lv_icmp_ne (tgt := 41) hx hb dX6_clue_34 (by decide) (fun cq => ?_) (fun cq => ?_)
        · replace h := tn cq h
          refine lv_iconst (v := 0) hx hb dX6_clue_41 (by decide) ?_
          exact J42 _ _ _ _ _ h _ _ hW _ (lv_sub hl [0, 1, 2, 3] rfl)
        · replace h := tp cq h
          exact J37 _ _ _ _ h _ _ hW _ (lv_sub hl [0, 1, 2, 3] rfl)
    · replace h := tp cq h
      refine lv_iconst (v := (-1)) hx hb dX6_clue_26 (by decide) ?_
      exact r_iretW hC hr hlocks h hW dX6_clue_27
  · replace h := tp cq h
    refine lv_bipush (v := (-2)) hx hb dX6_clue_9 (by decide) ?_
    exact r_iretW hC hr hlocks h hW dX6_clue_11
set_option maxHeartbeats 4000000 in
set_option maxRecDepth 100000 in
theorem c_X6_commonDivisor (l : Launch) (D : va_G) (cy : ClassId × ClassId) (ad : Nat → Nat) (A : Nat → Prop) (N : Nat) (p0 : Int64) (p1 : Int64) (σ : Hp) (r : Int64) (h : t_X6_commonDivisor N p0 p1 = some r) : Cl l yX6_commonDivisor us_X6_commonDivisor ({ frames := 0, cells := 0, slots := 0, locals := 0 } : Room) D cy 55 shX ad A [.long p0, .long p1] σ r σ := by
  unfold t_X6_commonDivisor at h
  refine Met.ofW (cc := cX6_commonDivisor) (maxL := 7) (ret := (some .long)) (by decide) rfl ?_
  intro p e s m args below meth c s₁ B hml hv
  obtain ⟨rfl, hP, hK, hD, hA, hN⟩ := hv
  have hx := B.exec
  have hb := B.bytes
  have hr := B.returns
  have hlocks := B.notSynchronized
  have hts : ∀ w ∈ wsU, w.before _ s = true := fun w h => atoms_spec (ws := us_X6_commonDivisor) B.pre w (List.mem_cons_of_mem _ h)
  have hown : s.vm.findClass RX6 = some m.cls := findClass_of_methodNamed B.named
  have hC : Cx p m c cX6_commonDivisor 7 s _ wsU RX6 D cy := ⟨⟨hx, hb, hml, hown, hts⟩, hK, hN⟩
  have hW : Wd D cy 55 shX ad A s.heap σ s.heap [] := ⟨hP, hD, va_S.rf, hA⟩
  have hl := lv_entry ([.long p0, .long p1]) (n := 7) (Nat.le_of_ble_eq_true rfl)
  rw [lg_entry_eq]
  generalize (lg_sl ([.long p0, .long p1]) ++ List.replicate (7 - (lg_sl ([.long p0, .long p1])).length) Slot.unset).toArray = ls at hl ⊢
  have hl : lv_has ls 7 [(0, .long p0), (2, .long p1)] := hl
  have L3 : ∀ (f : Nat) (v0 : Int64) (v2 : Int64) (v4 : Int32), t_X6_commonDivisor_3 N f v0 v2 v4 = some r → ∀ (H : Heap) (locs : List Loc), Wd D cy 55 shX ad A s.heap σ H locs → ∀ ls : Array Slot, lv_has ls 7 [(0, .long v0), (2, .long v2), (4, .int v4)] → Gl p l e us_X6_commonDivisor ({ frames := 0, cells := 0, slots := 0, locals := 0 } : Room) s m [.long p0, .long p1] below meth c D cy 55 shX ad A r σ H locs (F0 m 3 ls []) := by
    intro f
    unfold t_X6_commonDivisor_3
    refine loopG_ind (fun (T : Int64 → Int64 → Int32 → Option Int64) => ∀ (v0 : Int64) (v2 : Int64) (v4 : Int32), T v0 v2 v4 = some r → ∀ (H : Heap) (locs : List Loc), Wd D cy 55 shX ad A s.heap σ H locs → ∀ ls : Array Slot, lv_has ls 7 [(0, .long v0), (2, .long v2), (4, .int v4)] → Gl p l e us_X6_commonDivisor ({ frames := 0, cells := 0, slots := 0, locals := 0 } : Room) s m [.long p0, .long p1] below meth c D cy 55 shX ad A r σ H locs (F0 m 3 ls [])) ?_ ?_ f
    · intro v0 v2 v4 h; exact absurd h (by simp)
    · intro k3 ih3
      intro v0 v2 v4 h H locs hW ls hl
      refine lv_iload hx hb dX6_commonDivisor_3 (lv_at hl 2 rfl) ?_
      refine lv_sipush (v := 1000) hx hb dX6_commonDivisor_5 (by decide) ?_
      refine lv_icmp_ge (tgt := 33) hx hb dX6_commonDivisor_8 (by decide) (fun cq => ?_) (fun cq => ?_)
      · replace h := tp cq h
        refine lv_lload_n hx hb dX6_commonDivisor_33 rfl (lv_at hl 0 rfl) ?_
        exact r_lretP hC hr hlocks h hW dX6_commonDivisor_34
      · replace h := tn cq h
        refine lv_lload_n hx hb dX6_commonDivisor_11 rfl (lv_at hl 1 rfl) ?_
        refine lv_lconst (v := 0) hx hb dX6_commonDivisor_12 (by decide) ?_
        refine W.lcmp hx hb dX6_commonDivisor_13 ?_
        refine lv_if_eq (tgt := 33) hx hb dX6_commonDivisor_14 (by decide) (fun cq => ?_) (fun cq => ?_)
        · replace h := tp cq h
          refine lv_lload_n hx hb dX6_commonDivisor_33 rfl (lv_at hl 0 rfl) ?_
          exact r_lretP hC hr hlocks h hW dX6_commonDivisor_34
        · replace h := tn cq h
          refine lv_lload_n hx hb dX6_commonDivisor_17 rfl (lv_at hl 0 rfl) ?_
          refine lv_lload_n hx hb dX6_commonDivisor_18 rfl (lv_at hl 1 rfl) ?_
          replace h := ol h
          obtain ⟨hnz, h⟩ := h
          refine lv_lrem hx hb dX6_commonDivisor_19 hnz ?_
          replace h := bx h
          obtain ⟨x1, ex1, h⟩ := h
          refine topel ex1 ?_
          clear ex1
          refine lv_lstore (lv' := [(5, .long x1), (0, .long v0), (2, .long v2), (4, .int v4)]) hx hb dX6_commonDivisor_20 hl (by decide) rfl (fun ls hln => ?_)
          replace hl := hln
          clear hln
          refine lv_lload_n hx hb dX6_commonDivisor_22 rfl (lv_at hl 2 rfl) ?_
          refine lv_lstore_n (lv' := [(0, .long v2), (5, .long x1), (2, .long v2), (4, .int v4)]) hx hb dX6_commonDivisor_23 rfl hl (by decide) rfl (fun ls hln => ?_)
          replace hl := hln
          clear hln
          refine lv_lload hx hb dX6_commonDivisor_24 (lv_at hl 1 rfl) ?_
          refine lv_lstore_n (lv' := [(2, .long x1), (0, .long v2), (5, .long x1), (4, .int v4)]) hx hb dX6_commonDivisor_26 rfl hl (by decide) rfl (fun ls hln => ?_)
          replace hl := hln
          clear hln
          replace h := bx h
          obtain ⟨x2, ex2, h⟩ := h
          refine lv_iinc (v := x2) (lv' := [(4, .int x2), (2, .long x1), (0, .long v2), (5, .long x1)]) hx hb dX6_commonDivisor_27 hl (k := 3) rfl (by rw [ex2]; rfl) (by decide) rfl (fun ls hln => ?_)
          replace hl := hln
          clear hln ex2
          refine lv_goto (tgt := 3) hx hb dX6_commonDivisor_30 (by decide) ?_
          exact ih3 _ _ _ h _ _ hW _ (lv_sub hl [2, 1, 0] rfl)
  refine lv_iconst (v := 0) hx hb dX6_commonDivisor_0 (by decide) ?_
  refine lv_istore (lv' := [(4, .int 0), (0, .long p0), (2, .long p1)]) hx hb dX6_commonDivisor_1 hl (by decide) rfl (fun ls hln => ?_)
  replace hl := hln
  clear hln
  exact L3 _ _ _ _ h _ _ hW _ (lv_sub hl [1, 2, 0] rfl)
set_option maxHeartbeats 4000000 in
set_option maxRecDepth 100000 in
theorem c_X6_done (l : Launch) (D : va_G) (cy : ClassId × ClassId) (ad : Nat → Nat) (A : Nat → Prop) (N : Nat) (σ : Hp) (r : Int32) (σ' : Hp) (h : t_X6_done N σ = some (r, σ')) : Ci l yX6_done us_X6_done ({ frames := 6, cells := 0, slots := 0, locals := 137 } : Room) D cy 55 shX ad A [.ref (ad 0)] σ r σ' := by
  unfold t_X6_done at h
  refine Met.ofW (cc := cX6_done) (maxL := 2) (ret := (some .int)) (by decide) rfl ?_
  intro p e s m args below meth c s₁ B hml hv
  obtain ⟨rfl, hP, hK, hD, hA, hN⟩ := hv
  have hx := B.exec
  have hb := B.bytes
  have hr := B.returns
  have hlocks := B.notSynchronized
  have hts : ∀ w ∈ wsU, w.before _ s = true := fun w h => atoms_spec (ws := us_X6_done) B.pre w (List.mem_cons_of_mem _ h)
  have hown : s.vm.findClass RX6 = some m.cls := findClass_of_methodNamed B.named
  have hC : Cx p m c cX6_done 2 s _ wsU RX6 D cy := ⟨⟨hx, hb, hml, hown, hts⟩, hK, hN⟩
  have hW : Wd D cy 55 shX ad A s.heap σ s.heap [] := ⟨hP, hD, va_S.rf, hA⟩
  have hl := lv_entry ([.ref (ad 0)]) (n := 2) (Nat.le_of_ble_eq_true rfl)
  rw [lg_entry_eq]
  generalize (lg_sl ([.ref (ad 0)]) ++ List.replicate (2 - (lg_sl ([.ref (ad 0)])).length) Slot.unset).toArray = ls at hl ⊢
  have hl : lv_has ls 2 [(0, .ref (ad 0))] := hl
  refine lv_aload_n hx hb dX6_done_0 rfl (lv_at hl 0 rfl) ?_
  refine r_getr hC hW 4 (Nat.le_of_ble_eq_true rfl) rfl rfl rfl (by decide) inUX6 (hts _ wd_205) rfl dX6_done_1 ?_
  refine lv_aload_n hx hb dX6_done_4 rfl (lv_at hl 0 rfl) ?_
  refine r_getr hC hW 3 (Nat.le_of_ble_eq_true rfl) rfl rfl rfl (by decide) inUX6 (hts _ wd_182) rfl dX6_done_5 ?_
  refine lv_aload_n hx hb dX6_done_8 rfl (lv_at hl 0 rfl) ?_
  refine r_getr hC hW 0 (Nat.le_of_ble_eq_true rfl) rfl rfl rfl (by decide) inUX6 (hts _ wd_175) rfl dX6_done_9 ?_
  refine r_getrN hC hW 0 (Nat.le_of_ble_eq_true rfl) rfl rfl rfl (by decide) inUX4 (hC.2.2.use nf_RX6_50 rfl) rfl dX6_done_12 ?_
  replace h := ob h
  obtain ⟨r1, σ2, hc, h⟩ := h
  refine r_calli hW (va_runVN (As := [.ref (ad 31), .ref (ad 2)]) (rest := []) hC.1 (c_X5_run l D cy ad A N _ _ _ hc) ⟨va_cnB 2 hts (gdN wd_206) rfl rfl rfl (NL.at hC.2.2 nw_RX6_131 rfl) (hts _ wd_159) (by decide +kernel) ⟨Nat.le_of_ble_eq_true rfl, Nat.le_of_ble_eq_true rfl⟩, hts _ wd_207, hts _ wd_208⟩ (r_preV hC hW (Nat.le_of_ble_eq_true rfl) rfl rfl) rfl rfl hl.1 rfl (lv_room (Nat.le_of_ble_eq_true rfl)) dX6_done_15 ⟨Nat.zero_le _, Nat.zero_le _⟩) (fun H locs hWn => ?_)
  replace hW := hWn
  clear hWn hc
  refine lv_istore_n (lv' := [(1, .int r1), (0, .ref (ad 0))]) hx hb dX6_done_18 rfl hl (by decide) rfl (fun ls hln => ?_)
  replace hl := hln
  clear hln
  refine lv_iload_n hx hb dX6_done_19 rfl (lv_at hl 0 rfl) ?_
  refine lv_if_eq (tgt := 25) hx hb dX6_done_20 (by decide) (fun cq => ?_) (fun cq => ?_)
  · replace h := tp cq h
    refine lv_aload_n hx hb dX6_done_25 rfl (lv_at hl 1 rfl) ?_
    refine r_getr hC hW 0 (Nat.le_of_ble_eq_true rfl) rfl rfl rfl (by decide) inUX6 (hts _ wd_175) rfl dX6_done_26 ?_
    refine r_getrN hC hW 0 (Nat.le_of_ble_eq_true rfl) rfl rfl rfl (by decide) inUX4 (hC.2.2.use nf_RX6_50 rfl) rfl dX6_done_29 ?_
    refine lv_aload_n hx hb dX6_done_32 rfl (lv_at hl 1 rfl) ?_
    refine r_getr hC hW 4 (Nat.le_of_ble_eq_true rfl) rfl rfl rfl (by decide) inUX6 (hts _ wd_205) rfl dX6_done_33 ?_
    refine r_getrN hC hW 0 (Nat.le_of_ble_eq_true rfl) rfl rfl rfl (by decide) inUX5 (hC.2.2.use nf_RX6_147 rfl) rfl dX6_done_36 ?_
    replace h := bd h
    obtain ⟨σ3, hc, h⟩ := h
    refine r_callv hW (va_runVN (As := [.ref (ad 34)]) (rest := []) hC.1 (c_X0_copyFrom l D cy ad A N 2 (c_coop 2 rfl) 34 (c_coop 34 rfl) _ _ hc) ⟨va_cnB 1 hts (gdN wd_116) rfl rfl rfl (NL.at hC.2.2 nw_RX6_165 rfl) (hts _ wd_12) (by decide +kernel) ⟨Nat.le_of_ble_eq_true rfl, Nat.le_of_ble_eq_true rfl⟩, hts _ wd_117, hts _ wd_118⟩ (r_preV hC hW (Nat.le_of_ble_eq_true rfl) rfl rfl) rfl rfl hl.1 rfl (lv_room (Nat.le_of_ble_eq_true rfl)) dX6_done_39 ⟨Nat.zero_le _, Nat.zero_le _⟩) (fun H locs hWn => ?_)
    replace hW := hWn
    clear hWn hc
    refine lv_aload_n hx hb dX6_done_42 rfl (lv_at hl 1 rfl) ?_
    refine r_getr hC hW 3 (Nat.le_of_ble_eq_true rfl) rfl rfl rfl (by decide) inUX6 (hts _ wd_182) rfl dX6_done_43 ?_
    refine lv_iconst (v := 0) hx hb dX6_done_46 (by decide) ?_
    refine r_putN hC hW 0 (Nat.le_of_ble_eq_true rfl) rfl rfl rfl (by decide) inUX3 tyX3 tyX3_ok nmX3 (hC.2.2.use nf_RX6_105 rfl) rfl rfl ⟨rfl, rfl⟩ dX6_done_47 (fun σ4 eσ4 H locs hWn => ?_)
    replace h := bn eσ4 h
    replace hW := hWn
    clear hWn eσ4
    refine lv_aload_n hx hb dX6_done_50 rfl (lv_at hl 1 rfl) ?_
    refine r_getr hC hW 4 (Nat.le_of_ble_eq_true rfl) rfl rfl rfl (by decide) inUX6 (hts _ wd_205) rfl dX6_done_51 ?_
    refine r_getiN hC hW 2 (Nat.le_of_ble_eq_true rfl) rfl rfl rfl (by decide) inUX5 (hC.2.2.use nf_RX6_138 rfl) rfl dX6_done_54 ?_
    exact r_iretW hC hr hlocks h hW dX6_done_57
  · replace h := tn cq h
    refine lv_iload_n hx hb dX6_done_23 rfl (lv_at hl 0 rfl) ?_
    exact r_iretW hC hr hlocks h hW dX6_done_24
set_option maxHeartbeats 4000000 in
set_option maxRecDepth 100000 in
theorem c_X6_isFactFor (l : Launch) (D : va_G) (cy : ClassId × ClassId) (ad : Nat → Nat) (A : Nat → Prop) (p0 : Int32) (p1 : Int32) (σ : Hp) (r : Int32) (h : t_X6_isFactFor p0 p1 = some r) : Ci l yX6_isFactFor us_X6_isFactFor ({ frames := 1, cells := 0, slots := 0, locals := 22 } : Room) D cy 55 shX ad A [.int p0, .int p1] σ r σ := by
  unfold t_X6_isFactFor at h
  refine Met.ofW (cc := cX6_isFactFor) (maxL := 2) (ret := (some .boolean)) (by decide) rfl ?_
  intro p e s m args below meth c s₁ B hml hv
  obtain ⟨rfl, hP, hK, hD, hA, hN⟩ := hv
  have hx := B.exec
  have hb := B.bytes
  have hr := B.returns
  have hlocks := B.notSynchronized
  have hts : ∀ w ∈ wsU, w.before _ s = true := fun w h => atoms_spec (ws := us_X6_isFactFor) B.pre w (List.mem_cons_of_mem _ h)
  have hown : s.vm.findClass RX6 = some m.cls := findClass_of_methodNamed B.named
  have hC : Cx p m c cX6_isFactFor 2 s _ wsU RX6 D cy := ⟨⟨hx, hb, hml, hown, hts⟩, hK, hN⟩
  have hW : Wd D cy 55 shX ad A s.heap σ s.heap [] := ⟨hP, hD, va_S.rf, hA⟩
  have hl := lv_entry ([.int p0, .int p1]) (n := 2) (Nat.le_of_ble_eq_true rfl)
  rw [lg_entry_eq]
  generalize (lg_sl ([.int p0, .int p1]) ++ List.replicate (2 - (lg_sl ([.int p0, .int p1])).length) Slot.unset).toArray = ls at hl ⊢
  have hl : lv_has ls 2 [(0, .int p0), (1, .int p1)] := hl
  refine lv_iload_n hx hb dX6_isFactFor_0 rfl (lv_at hl 0 rfl) ?_
  by_cases cq0 : p0 = 0
  · replace h := tp cq0 h
    refine lv_tableIn (off := 31) (tgt := 32) hx hb dX6_isFactFor_1 (by rw [cq0]; decide) (by rw [cq0]; decide) (by rw [cq0]; rfl) (by decide) ?_
    refine lv_iload_n hx hb dX6_isFactFor_32 rfl (lv_at hl 1 rfl) ?_
    refine lv_iconst (v := 1) hx hb dX6_isFactFor_33 (by decide) ?_
    refine lv_bipush (v := 9) hx hb dX6_isFactFor_34 (by decide) ?_
    replace h := bd h
    obtain ⟨r1, hc, h⟩ := h
    refine r_calli hW (va_runS (As := [.int p1, .int 1, .int 9]) (rest := []) hC.1 (c_X6_isWithin l D cy ad A _ _ _ _ _ hc) (va_cwS 3 hts (gdS wd_101 wd_102 wd_5 wd_100) rfl rfl rfl (by decide +kernel) ⟨Nat.le_of_ble_eq_true rfl, Nat.le_of_ble_eq_true rfl⟩) (r_preS hC hW) rfl rfl hl.1 rfl (lv_room (Nat.le_of_ble_eq_true rfl)) dX6_isFactFor_36 ⟨Nat.zero_le _, Nat.zero_le _⟩) (fun H locs hWn => ?_)
    replace hW := hWn
    clear hWn hc
    replace h := oz h
    obtain ⟨hz, h⟩ := h
    exact r_zretP hz hC hr hlocks h hW dX6_isFactFor_39
  replace h := tn cq0 h
  by_cases cq1 : p0 = 1
  · replace h := tp cq1 h
    refine lv_tableIn (off := 39) (tgt := 40) hx hb dX6_isFactFor_1 (by rw [cq1]; decide) (by rw [cq1]; decide) (by rw [cq1]; rfl) (by decide) ?_
    refine lv_iload_n hx hb dX6_isFactFor_40 rfl (lv_at hl 1 rfl) ?_
    refine lv_iconst (v := 0) hx hb dX6_isFactFor_41 (by decide) ?_
    refine lv_bipush (v := 9) hx hb dX6_isFactFor_42 (by decide) ?_
    replace h := bd h
    obtain ⟨r2, hc, h⟩ := h
    refine r_calli hW (va_runS (As := [.int p1, .int 0, .int 9]) (rest := []) hC.1 (c_X6_isWithin l D cy ad A _ _ _ _ _ hc) (va_cwS 3 hts (gdS wd_101 wd_102 wd_5 wd_100) rfl rfl rfl (by decide +kernel) ⟨Nat.le_of_ble_eq_true rfl, Nat.le_of_ble_eq_true rfl⟩) (r_preS hC hW) rfl rfl hl.1 rfl (lv_room (Nat.le_of_ble_eq_true rfl)) dX6_isFactFor_44 ⟨Nat.zero_le _, Nat.zero_le _⟩) (fun H locs hWn => ?_)
    replace hW := hWn
    clear hWn hc
    replace h := oz h
    obtain ⟨hz, h⟩ := h
    exact r_zretP hz hC hr hlocks h hW dX6_isFactFor_47
  replace h := tn cq1 h
  by_cases cq2 : p0 = 2
  · replace h := tp cq2 h
    refine lv_tableIn (off := 47) (tgt := 48) hx hb dX6_isFactFor_1 (by rw [cq2]; decide) (by rw [cq2]; decide) (by rw [cq2]; rfl) (by decide) ?_
    refine lv_iload_n hx hb dX6_isFactFor_48 rfl (lv_at hl 1 rfl) ?_
    refine lv_iconst (v := 0) hx hb dX6_isFactFor_49 (by decide) ?_
    refine lv_bipush (v := 99) hx hb dX6_isFactFor_50 (by decide) ?_
    replace h := bd h
    obtain ⟨r3, hc, h⟩ := h
    refine r_calli hW (va_runS (As := [.int p1, .int 0, .int 99]) (rest := []) hC.1 (c_X6_isWithin l D cy ad A _ _ _ _ _ hc) (va_cwS 3 hts (gdS wd_101 wd_102 wd_5 wd_100) rfl rfl rfl (by decide +kernel) ⟨Nat.le_of_ble_eq_true rfl, Nat.le_of_ble_eq_true rfl⟩) (r_preS hC hW) rfl rfl hl.1 rfl (lv_room (Nat.le_of_ble_eq_true rfl)) dX6_isFactFor_52 ⟨Nat.zero_le _, Nat.zero_le _⟩) (fun H locs hWn => ?_)
    replace hW := hWn
    clear hWn hc
    replace h := oz h
    obtain ⟨hz, h⟩ := h
    exact r_zretP hz hC hr hlocks h hW dX6_isFactFor_55
  replace h := tn cq2 h
  by_cases cq3 : p0 = 3
  · replace h := tp cq3 h
    refine lv_tableIn (off := 55) (tgt := 56) hx hb dX6_isFactFor_1 (by rw [cq3]; decide) (by rw [cq3]; decide) (by rw [cq3]; rfl) (by decide) ?_
    refine lv_iload_n hx hb dX6_isFactFor_56 rfl (lv_at hl 1 rfl) ?_
    refine lv_iconst (v := 0) hx hb dX6_isFactFor_57 (by decide) ?_
    refine lv_iconst (v := 5) hx hb dX6_isFactFor_58 (by decide) ?_
    replace h := bd h
    obtain ⟨r4, hc, h⟩ := h
    refine r_calli hW (va_runS (As := [.int p1, .int 0, .int 5]) (rest := []) hC.1 (c_X6_isWithin l D cy ad A _ _ _ _ _ hc) (va_cwS 3 hts (gdS wd_101 wd_102 wd_5 wd_100) rfl rfl rfl (by decide +kernel) ⟨Nat.le_of_ble_eq_true rfl, Nat.le_of_ble_eq_true rfl⟩) (r_preS hC hW) rfl rfl hl.1 rfl (lv_room (Nat.le_of_ble_eq_true rfl)) dX6_isFactFor_59 ⟨Nat.zero_le _, Nat.zero_le _⟩) (fun H locs hWn => ?_)
    replace hW := hWn
    clear hWn hc
    replace h := oz h
    obtain ⟨hz, h⟩ := h
    exact r_zretP hz hC hr hlocks h hW dX6_isFactFor_62
  replace h := tn cq3 h
  refine lv_tableOut (tgt := 63) hx hb dX6_isFactFor_1 (by have z0 := ti_ne cq0; have z1 := ti_ne cq1; have z2 := ti_ne cq2; have z3 := ti_ne cq3; simp only [ti_0, ti_1, ti_2, ti_3] at z0 z1 z2 z3; omega) (by decide) ?_
  refine lv_iconst (v := 0) hx hb dX6_isFactFor_63 (by decide) ?_
  exact r_zretP (Or.inl rfl) hC hr hlocks h hW dX6_isFactFor_64
set_option maxHeartbeats 4000000 in
set_option maxRecDepth 100000 in
theorem c_X6_egg (l : Launch) (D : va_G) (cy : ClassId × ClassId) (ad : Nat → Nat) (A : Nat → Prop) (p0 : Int32) (p1 : Int32) (p2 : Int32) (σ : Hp) (r : Int32) (σ' : Hp) (h : t_X6_egg p0 p1 p2 σ = some (r, σ')) : Ci l yX6_egg us_X6_egg ({ frames := 2, cells := 0, slots := 0, locals := 45 } : Room) D cy 55 shX ad A [.ref (ad 0), .int p0, .int p1, .int p2] σ r σ' := by
  unfold t_X6_egg at h
  refine Met.ofW (cc := cX6_egg) (maxL := 5) (ret := (some .int)) (by decide) rfl ?_
  intro p e s m args below meth c s₁ B hml hv
  obtain ⟨rfl, hP, hK, hD, hA, hN⟩ := hv
  have hx := B.exec
  have hb := B.bytes
  have hr := B.returns
  have hlocks := B.notSynchronized
  have hts : ∀ w ∈ wsU, w.before _ s = true := fun w h => atoms_spec (ws := us_X6_egg) B.pre w (List.mem_cons_of_mem _ h)
  have hown : s.vm.findClass RX6 = some m.cls := findClass_of_methodNamed B.named
  have hC : Cx p m c cX6_egg 5 s _ wsU RX6 D cy := ⟨⟨hx, hb, hml, hown, hts⟩, hK, hN⟩
  have hW : Wd D cy 55 shX ad A s.heap σ s.heap [] := ⟨hP, hD, va_S.rf, hA⟩
  have hl := lv_entry ([.ref (ad 0), .int p0, .int p1, .int p2]) (n := 5) (Nat.le_of_ble_eq_true rfl)
  rw [lg_entry_eq]
  generalize (lg_sl ([.ref (ad 0), .int p0, .int p1, .int p2]) ++ List.replicate (5 - (lg_sl ([.ref (ad 0), .int p0, .int p1, .int p2])).length) Slot.unset).toArray = ls at hl ⊢
  have hl : lv_has ls 5 [(0, .ref (ad 0)), (1, .int p0), (2, .int p1), (3, .int p2)] := hl
  have J49 : ∀ (v1 : Int32) (v2 : Int32) (v3 : Int32) (σ : Hp), t_X6_egg_49 v1 v2 v3 σ = some (r, σ') → ∀ (H : Heap) (locs : List Loc), Wd D cy 55 shX ad A s.heap σ H locs → ∀ ls : Array Slot, lv_has ls 5 [(0, .ref (ad 0)), (1, .int v1), (2, .int v2), (3, .int v3)] → Gi p l e us_X6_egg ({ frames := 2, cells := 0, slots := 0, locals := 45 } : Room) s m [.ref (ad 0), .int p0, .int p1, .int p2] below meth c D cy 55 shX ad A r σ' H locs (F0 m 49 ls []) := by
    intro v1 v2 v3 σ h H locs hW ls hl
    unfold t_X6_egg_49 at h
    refine lv_aload_n hx hb dX6_egg_49 rfl (lv_at hl 0 rfl) ?_
    refine r_getr hC hW 0 (Nat.le_of_ble_eq_true rfl) rfl rfl rfl (by decide) inUX6 (hts _ wd_175) rfl dX6_egg_50 ?_
    refine r_getrN hC hW 0 (Nat.le_of_ble_eq_true rfl) rfl rfl rfl (by decide) inUX4 (hC.2.2.use nf_RX6_50 rfl) rfl dX6_egg_53 ?_
    refine lv_iload_n hx hb dX6_egg_56 rfl (lv_at hl 1 rfl) ?_
    refine lv_iload_n hx hb dX6_egg_57 rfl (lv_at hl 2 rfl) ?_
    replace h := bd h
    obtain ⟨r1, hc, h⟩ := h
    refine r_calli hW (va_runVN (As := [.int v1, .int v2]) (rest := []) hC.1 (c_X0_fact l D cy ad A 2 (c_coop 2 rfl) _ _ _ _ hc) ⟨va_cnB 2 hts (gdN wd_17) rfl rfl rfl (NL.at hC.2.2 nw_RX6_88 rfl) (hts _ wd_12) (by decide +kernel) ⟨Nat.le_of_ble_eq_true rfl, Nat.le_of_ble_eq_true rfl⟩, hts _ wd_19, hts _ wd_20⟩ (r_preV hC hW (Nat.le_of_ble_eq_true rfl) rfl rfl) rfl rfl hl.1 rfl (lv_room (Nat.le_of_ble_eq_true rfl)) dX6_egg_58 ⟨Nat.zero_le _, Nat.zero_le _⟩) (fun H locs hWn => ?_)
    replace hW := hWn
    clear hWn hc
    refine lv_istore (lv' := [(4, .int r1), (0, .ref (ad 0)), (1, .int v1), (2, .int v2), (3, .int v3)]) hx hb dX6_egg_61 hl (by decide) rfl (fun ls hln => ?_)
    replace hl := hln
    clear hln
    refine lv_aload_n hx hb dX6_egg_63 rfl (lv_at hl 1 rfl) ?_
    refine r_getr hC hW 0 (Nat.le_of_ble_eq_true rfl) rfl rfl rfl (by decide) inUX6 (hts _ wd_175) rfl dX6_egg_64 ?_
    refine r_getrN hC hW 0 (Nat.le_of_ble_eq_true rfl) rfl rfl rfl (by decide) inUX4 (hC.2.2.use nf_RX6_50 rfl) rfl dX6_egg_67 ?_
    refine lv_iload_n hx hb dX6_egg_70 rfl (lv_at hl 2 rfl) ?_
    refine lv_iload_n hx hb dX6_egg_71 rfl (lv_at hl 3 rfl) ?_
    refine lv_iload_n hx hb dX6_egg_72 rfl (lv_at hl 4 rfl) ?_
    replace h := bd h
    obtain ⟨σ2, hc, h⟩ := h
    refine r_callv hW (va_runVN (As := [.int v1, .int v2, .int v3]) (rest := []) hC.1 (c_X0_setFact l D cy ad A 2 (c_coop 2 rfl) _ _ _ _ _ hc) ⟨va_cnB 3 hts (gdN wd_39) rfl rfl rfl (NL.at hC.2.2 nw_RX6_92 rfl) (hts _ wd_12) (by decide +kernel) ⟨Nat.le_of_ble_eq_true rfl, Nat.le_of_ble_eq_true rfl⟩, hts _ wd_41, hts _ wd_42⟩ (r_preV hC hW (Nat.le_of_ble_eq_true rfl) rfl rfl) rfl rfl hl.1 rfl (lv_room (Nat.le_of_ble_eq_true rfl)) dX6_egg_73 ⟨Nat.zero_le _, Nat.zero_le _⟩) (fun H locs hWn => ?_)
    replace hW := hWn
    clear hWn hc
    refine lv_iload hx hb dX6_egg_76 (lv_at hl 0 rfl) ?_
    exact r_iretW hC hr hlocks h hW dX6_egg_78
  refine lv_aload_n hx hb dX6_egg_0 rfl (lv_at hl 0 rfl) ?_
  refine r_getr hC hW 0 (Nat.le_of_ble_eq_true rfl) rfl rfl rfl (by decide) inUX6 (hts _ wd_175) rfl dX6_egg_1 ?_
  refine r_getrN hC hW 0 (Nat.le_of_ble_eq_true rfl) rfl rfl rfl (by decide) inUX4 (hC.2.2.use nf_RX6_50 rfl) rfl dX6_egg_4 ?_
  refine lv_iload_n hx hb dX6_egg_7 rfl (lv_at hl 1 rfl) ?_
  replace h := bd h
  obtain ⟨r3, hc, h⟩ := h
  refine r_calli hW (va_runVN (As := [.int p0]) (rest := []) hC.1 (c_X0_has l D cy ad A 2 (c_coop 2 rfl) _ _ _ hc) ⟨va_cnB 1 hts (gdN wd_202) rfl rfl rfl (NL.at hC.2.2 nw_RX6_77 rfl) (hts _ wd_12) (by decide +kernel) ⟨Nat.le_of_ble_eq_true rfl, Nat.le_of_ble_eq_true rfl⟩, hts _ wd_203, hts _ wd_204⟩ (r_preV hC hW (Nat.le_of_ble_eq_true rfl) rfl rfl) rfl rfl hl.1 rfl (lv_room (Nat.le_of_ble_eq_true rfl)) dX6_egg_8 ⟨Nat.zero_le _, Nat.zero_le _⟩) (fun H locs hWn => ?_)
  replace hW := hWn
  clear hWn hc
  refine lv_if_ne (tgt := 16) hx hb dX6_egg_11 (by decide) (fun cq => ?_) (fun cq => ?_)
  · replace h := tn cq h
    refine lv_iload_n hx hb dX6_egg_16 rfl (lv_at hl 2 rfl) ?_
    refine lv_iload_n hx hb dX6_egg_17 rfl (lv_at hl 3 rfl) ?_
    replace h := bd h
    obtain ⟨r4, hc, h⟩ := h
    refine r_calli hW (va_runS (As := [.int p1, .int p2]) (rest := []) hC.1 (c_X6_isFactFor l D cy ad A _ _ _ _ hc) (va_cwS 2 hts (gdS wd_218 wd_219 wd_5 wd_217) rfl rfl rfl (by decide +kernel) ⟨Nat.le_of_ble_eq_true rfl, Nat.le_of_ble_eq_true rfl⟩) (r_preS hC hW) rfl rfl hl.1 rfl (lv_room (Nat.le_of_ble_eq_true rfl)) dX6_egg_18 ⟨Nat.zero_le _, Nat.zero_le _⟩) (fun H locs hWn => ?_)
    replace hW := hWn
    clear hWn hc
    refine lv_if_ne (tgt := 27) hx hb dX6_egg_21 (by decide) (fun cq => ?_) (fun cq => ?_)
    · replace h := tn cq h
      refine lv_iload_n hx hb dX6_egg_27 rfl (lv_at hl 2 rfl) ?_
      refine lv_iconst (v := 1) hx hb dX6_egg_28 (by decide) ?_
      refine lv_icmp_ne (tgt := 49) hx hb dX6_egg_29 (by decide) (fun cq => ?_) (fun cq => ?_)
      · replace h := tn cq h
        exact J49 _ _ _ _ h _ _ hW _ (lv_sub hl [0, 1, 2, 3] rfl)
      · replace h := tp cq h
        refine lv_aload_n hx hb dX6_egg_32 rfl (lv_at hl 0 rfl) ?_
        refine r_getr hC hW 0 (Nat.le_of_ble_eq_true rfl) rfl rfl rfl (by decide) inUX6 (hts _ wd_175) rfl dX6_egg_33 ?_
        refine r_getrN hC hW 0 (Nat.le_of_ble_eq_true rfl) rfl rfl rfl (by decide) inUX4 (hC.2.2.use nf_RX6_50 rfl) rfl dX6_egg_36 ?_
        refine lv_iload_n hx hb dX6_egg_39 rfl (lv_at hl 1 rfl) ?_
        replace h := bd h
        obtain ⟨r5, hc, h⟩ := h
        refine r_calli hW (va_runVN (As := [.int p0]) (rest := []) hC.1 (c_X0_isWhole l D cy ad A 2 (c_coop 2 rfl) _ _ _ hc) ⟨va_cnB 1 hts (gdN wd_8) rfl rfl rfl (NL.at hC.2.2 nw_RX6_85 rfl) (hts _ wd_12) (by decide +kernel) ⟨Nat.le_of_ble_eq_true rfl, Nat.le_of_ble_eq_true rfl⟩, hts _ wd_10, hts _ wd_11⟩ (r_preV hC hW (Nat.le_of_ble_eq_true rfl) rfl rfl) rfl rfl hl.1 rfl (lv_room (Nat.le_of_ble_eq_true rfl)) dX6_egg_40 ⟨Nat.zero_le _, Nat.zero_le _⟩) (fun H locs hWn => ?_)
        replace hW := hWn
        clear hWn hc
        refine lv_if_ne (tgt := 49) hx hb dX6_egg_43 (by decide) (fun cq => ?_) (fun cq => ?_)
        · replace h := tn cq h
          exact J49 _ _ _ _ h _ _ hW _ (lv_sub hl [0, 1, 2, 3] rfl)
        · replace h := tp cq h
          refine lv_bipush (v := (-3)) hx hb dX6_egg_46 (by decide) ?_
          exact r_iretW hC hr hlocks h hW dX6_egg_48
    · replace h := tp cq h
      refine lv_bipush (v := (-2)) hx hb dX6_egg_24 (by decide) ?_
      exact r_iretW hC hr hlocks h hW dX6_egg_26
  · replace h := tp cq h
    refine lv_iconst (v := (-1)) hx hb dX6_egg_14 (by decide) ?_
    exact r_iretW hC hr hlocks h hW dX6_egg_15
set_option maxHeartbeats 4000000 in
set_option maxRecDepth 100000 in
theorem c_X6_eggs (l : Launch) (D : va_G) (cy : ClassId × ClassId) (ad : Nat → Nat) (A : Nat → Prop) (N : Nat) (p0 : Int32) (σ : Hp) (r : Int32) (σ' : Hp) (h : t_X6_eggs N p0 σ = some (r, σ')) : Ci l yX6_eggs us_X6_eggs ({ frames := 3, cells := 0, slots := 0, locals := 67 } : Room) D cy 55 shX ad A [.ref (ad 0), .int p0] σ r σ' := by
  unfold t_X6_eggs at h
  refine Met.ofW (cc := cX6_eggs) (maxL := 3) (ret := (some .int)) (by decide) rfl ?_
  intro p e s m args below meth c s₁ B hml hv
  obtain ⟨rfl, hP, hK, hD, hA, hN⟩ := hv
  have hx := B.exec
  have hb := B.bytes
  have hr := B.returns
  have hlocks := B.notSynchronized
  have hts : ∀ w ∈ wsU, w.before _ s = true := fun w h => atoms_spec (ws := us_X6_eggs) B.pre w (List.mem_cons_of_mem _ h)
  have hown : s.vm.findClass RX6 = some m.cls := findClass_of_methodNamed B.named
  have hC : Cx p m c cX6_eggs 3 s _ wsU RX6 D cy := ⟨⟨hx, hb, hml, hown, hts⟩, hK, hN⟩
  have hW : Wd D cy 55 shX ad A s.heap σ s.heap [] := ⟨hP, hD, va_S.rf, hA⟩
  have hl := lv_entry ([.ref (ad 0), .int p0]) (n := 3) (Nat.le_of_ble_eq_true rfl)
  rw [lg_entry_eq]
  generalize (lg_sl ([.ref (ad 0), .int p0]) ++ List.replicate (3 - (lg_sl ([.ref (ad 0), .int p0])).length) Slot.unset).toArray = ls at hl ⊢
  have hl : lv_has ls 3 [(0, .ref (ad 0)), (1, .int p0)] := hl
  refine lv_iload_n hx hb dX6_eggs_0 rfl (lv_at hl 1 rfl) ?_
  refine lv_iconst (v := 1) hx hb dX6_eggs_1 (by decide) ?_
  refine lv_bipush (v := 7) hx hb dX6_eggs_2 (by decide) ?_
  replace h := bd h
  obtain ⟨r1, hc, h⟩ := h
  refine r_calli hW (va_runS (As := [.int p0, .int 1, .int 7]) (rest := []) hC.1 (c_X6_isWithin l D cy ad A _ _ _ _ _ hc) (va_cwS 3 hts (gdS wd_101 wd_102 wd_5 wd_100) rfl rfl rfl (by decide +kernel) ⟨Nat.le_of_ble_eq_true rfl, Nat.le_of_ble_eq_true rfl⟩) (r_preS hC hW) rfl rfl hl.1 rfl (lv_room (Nat.le_of_ble_eq_true rfl)) dX6_eggs_4 ⟨Nat.zero_le _, Nat.zero_le _⟩) (fun H locs hWn => ?_)
  replace hW := hWn
  clear hWn hc
  refine lv_if_ne (tgt := 13) hx hb dX6_eggs_7 (by decide) (fun cq => ?_) (fun cq => ?_)
  · replace h := tn cq h
    refine lv_aload_n hx hb dX6_eggs_13 rfl (lv_at hl 0 rfl) ?_
    refine r_getr hC hW 0 (Nat.le_of_ble_eq_true rfl) rfl rfl rfl (by decide) inUX6 (hts _ wd_175) rfl dX6_eggs_14 ?_
    refine r_getrN hC hW 0 (Nat.le_of_ble_eq_true rfl) rfl rfl rfl (by decide) inUX4 (hC.2.2.use nf_RX6_50 rfl) rfl dX6_eggs_17 ?_
    refine r_getiN hC hW 0 (Nat.le_of_ble_eq_true rfl) rfl rfl rfl (by decide) inUX0 (hC.2.2.use nf_RX6_61 rfl) rfl dX6_eggs_20 ?_
    replace h := bx h
    obtain ⟨x2, ex2, h⟩ := h
    refine tope ex2 ?_
    clear ex2
    refine lv_istore_n (lv' := [(2, .int x2), (0, .ref (ad 0)), (1, .int p0)]) hx hb dX6_eggs_23 rfl hl (by decide) rfl (fun ls hln => ?_)
    replace hl := hln
    clear hln
    refine lv_aload_n hx hb dX6_eggs_24 rfl (lv_at hl 1 rfl) ?_
    refine r_getr hC hW 0 (Nat.le_of_ble_eq_true rfl) rfl rfl rfl (by decide) inUX6 (hts _ wd_175) rfl dX6_eggs_25 ?_
    refine r_getrN hC hW 0 (Nat.le_of_ble_eq_true rfl) rfl rfl rfl (by decide) inUX4 (hC.2.2.use nf_RX6_50 rfl) rfl dX6_eggs_28 ?_
    refine lv_iload_n hx hb dX6_eggs_31 rfl (lv_at hl 2 rfl) ?_
    replace h := bd h
    obtain ⟨σ3, hc, h⟩ := h
    refine r_callv hW (va_runVN (As := [.int p0]) (rest := []) hC.1 (c_X0_startWith l D cy ad A N 2 (c_coop 2 rfl) _ _ _ hc) ⟨va_cnB 1 hts (gdN wd_220) rfl rfl rfl (NL.at hC.2.2 nw_RX6_53 rfl) (hts _ wd_12) (by decide +kernel) ⟨Nat.le_of_ble_eq_true rfl, Nat.le_of_ble_eq_true rfl⟩, hts _ wd_221, hts _ wd_222⟩ (r_preV hC hW (Nat.le_of_ble_eq_true rfl) rfl rfl) rfl rfl hl.1 rfl (lv_room (Nat.le_of_ble_eq_true rfl)) dX6_eggs_32 ⟨Nat.zero_le _, Nat.zero_le _⟩) (fun H locs hWn => ?_)
    replace hW := hWn
    clear hWn hc
    refine lv_aload_n hx hb dX6_eggs_35 rfl (lv_at hl 1 rfl) ?_
    refine r_getr hC hW 0 (Nat.le_of_ble_eq_true rfl) rfl rfl rfl (by decide) inUX6 (hts _ wd_175) rfl dX6_eggs_36 ?_
    refine r_getrN hC hW 1 (Nat.le_of_ble_eq_true rfl) rfl rfl rfl (by decide) inUX4 (hC.2.2.use nf_RX6_65 rfl) rfl dX6_eggs_39 ?_
    refine lv_iconst (v := 0) hx hb dX6_eggs_42 (by decide) ?_
    refine r_putN hC hW 0 (Nat.le_of_ble_eq_true rfl) rfl rfl rfl (by decide) inUX2 tyX2 tyX2_ok nmX2 (hC.2.2.use nf_RX6_69 rfl) rfl rfl ⟨rfl, rfl⟩ dX6_eggs_43 (fun σ4 eσ4 H locs hWn => ?_)
    replace h := bn eσ4 h
    replace hW := hWn
    clear hWn eσ4
    refine lv_aload_n hx hb dX6_eggs_46 rfl (lv_at hl 1 rfl) ?_
    refine r_getr hC hW 0 (Nat.le_of_ble_eq_true rfl) rfl rfl rfl (by decide) inUX6 (hts _ wd_175) rfl dX6_eggs_47 ?_
    refine r_getrN hC hW 1 (Nat.le_of_ble_eq_true rfl) rfl rfl rfl (by decide) inUX4 (hC.2.2.use nf_RX6_65 rfl) rfl dX6_eggs_50 ?_
    refine lv_iconst (v := 0) hx hb dX6_eggs_53 (by decide) ?_
    refine r_putN hC hW 1 (Nat.le_of_ble_eq_true rfl) rfl rfl rfl (by decide) inUX2 tyX2 tyX2_ok nmX2 (hC.2.2.use nf_RX6_74 rfl) rfl rfl ⟨rfl, rfl⟩ dX6_eggs_54 (fun σ5 eσ5 H locs hWn => ?_)
    replace h := bn eσ5 h
    replace hW := hWn
    clear hWn eσ5
    refine lv_iload_n hx hb dX6_eggs_57 rfl (lv_at hl 0 rfl) ?_
    exact r_iretW hC hr hlocks h hW dX6_eggs_58
  · replace h := tp cq h
    refine lv_bipush (v := (-2)) hx hb dX6_eggs_10 (by decide) ?_
    exact r_iretW hC hr hlocks h hW dX6_eggs_12
