set_option maxHeartbeats 4000000 in
set_option maxRecDepth 100000 in
theorem c_X6_told (l : Launch) (D : va_G) (cy : ClassId × ClassId) (ad : Nat → Nat) (A : Nat → Prop) (p0 : Int32) (σ : Hp) (r : Int32) (h : t_X6_told p0 σ = some r) : Ci l yX6_told us_X6_told ({ frames := 2, cells := 0, slots := 0, locals := 43 } : Room) D cy 55 shX ad A [.ref (ad 0), .int p0] σ r σ := by
  unfold t_X6_told at h
  refine Met.ofW (cc := cX6_told) (maxL := 4) (ret := (some .int)) (by decide) rfl ?_
  intro p e s m args below meth c s₁ B hml hv
  obtain ⟨rfl, hP, hK, hD, hA, hN⟩ := hv
  have hx := B.exec
  have hb := B.bytes
  have hr := B.returns
  have hlocks := B.notSynchronized
  have hts : ∀ w ∈ wsU, w.before _ s = true := fun w h => atoms_spec (ws := us_X6_told) B.pre w (List.mem_cons_of_mem _ h)
  have hown : s.vm.findClass RX6 = some m.cls := findClass_of_methodNamed B.named
  have hC : Cx p m c cX6_told 4 s _ wsU RX6 D cy := ⟨⟨hx, hb, hml, hown, hts⟩, hK, hN⟩
  have hW : Wd D cy 55 shX ad A s.heap σ s.heap [] := ⟨hP, hD, va_S.rf, hA⟩
  have hl := lv_entry ([.ref (ad 0), .int p0]) (n := 4) (Nat.le_of_ble_eq_true rfl)
  rw [lg_entry_eq]
  generalize (lg_sl ([.ref (ad 0), .int p0]) ++ List.replicate (4 - (lg_sl ([.ref (ad 0), .int p0])).length) Slot.unset).toArray = ls at hl ⊢
  have hl : lv_has ls 4 [(0, .ref (ad 0)), (1, .int p0)] := hl
  have J185 : t_X6_told_185  σ = some r → ∀ (H : Heap) (locs : List Loc), Wd D cy 55 shX ad A s.heap σ H locs → ∀ ls : Array Slot, lv_has ls 4 [] → Gi p l e us_X6_told ({ frames := 2, cells := 0, slots := 0, locals := 43 } : Room) s m [.ref (ad 0), .int p0] below meth c D cy 55 shX ad A r σ H locs (F0 m 185 ls []) := by
    intro  h H locs hW ls hl
    unfold t_X6_told_185 at h
    refine lv_bipush (v := (-2)) hx hb dX6_told_185 (by decide) ?_
    exact r_iretP hC hr hlocks h hW dX6_told_187
  refine lv_iload_n hx hb dX6_told_0 rfl (lv_at hl 1 rfl) ?_
  by_cases cq0 : p0 = 0
  · replace h := tp cq0 h
    refine lv_tableIn (off := 35) (tgt := 36) hx hb dX6_told_1 (by rw [cq0]; decide) (by rw [cq0]; decide) (by rw [cq0]; rfl) (by decide) ?_
    refine lv_aload_n hx hb dX6_told_36 rfl (lv_at hl 0 rfl) ?_
    refine r_getr hC hW 3 (Nat.le_of_ble_eq_true rfl) rfl rfl rfl (by decide) inUX6 (hts _ wd_182) rfl dX6_told_37 ?_
    refine r_getiN hC hW 0 (Nat.le_of_ble_eq_true rfl) rfl rfl rfl (by decide) inUX3 (hC.2.2.use nf_RX6_105 rfl) rfl dX6_told_40 ?_
    exact r_iretP hC hr hlocks h hW dX6_told_43
  replace h := tn cq0 h
  by_cases cq1 : p0 = 1
  · replace h := tp cq1 h
    refine lv_tableIn (off := 43) (tgt := 44) hx hb dX6_told_1 (by rw [cq1]; decide) (by rw [cq1]; decide) (by rw [cq1]; rfl) (by decide) ?_
    refine lv_aload_n hx hb dX6_told_44 rfl (lv_at hl 0 rfl) ?_
    refine r_getr hC hW 0 (Nat.le_of_ble_eq_true rfl) rfl rfl rfl (by decide) inUX6 (hts _ wd_175) rfl dX6_told_45 ?_
    refine r_getrN hC hW 0 (Nat.le_of_ble_eq_true rfl) rfl rfl rfl (by decide) inUX4 (hC.2.2.use nf_RX6_50 rfl) rfl dX6_told_48 ?_
    refine r_getiN hC hW 0 (Nat.le_of_ble_eq_true rfl) rfl rfl rfl (by decide) inUX0 (hC.2.2.use nf_RX6_61 rfl) rfl dX6_told_51 ?_
    exact r_iretP hC hr hlocks h hW dX6_told_54
  replace h := tn cq1 h
  by_cases cq2 : p0 = 2
  · replace h := tp cq2 h
    refine lv_tableIn (off := 54) (tgt := 55) hx hb dX6_told_1 (by rw [cq2]; decide) (by rw [cq2]; decide) (by rw [cq2]; rfl) (by decide) ?_
    refine lv_aload_n hx hb dX6_told_55 rfl (lv_at hl 0 rfl) ?_
    refine r_getr hC hW 0 (Nat.le_of_ble_eq_true rfl) rfl rfl rfl (by decide) inUX6 (hts _ wd_175) rfl dX6_told_56 ?_
    refine r_getrN hC hW 0 (Nat.le_of_ble_eq_true rfl) rfl rfl rfl (by decide) inUX4 (hC.2.2.use nf_RX6_50 rfl) rfl dX6_told_59 ?_
    refine r_getiN hC hW 1 (Nat.le_of_ble_eq_true rfl) rfl rfl rfl (by decide) inUX0 (hC.2.2.use nf_RX6_96 rfl) rfl dX6_told_62 ?_
    exact r_iretP hC hr hlocks h hW dX6_told_65
  replace h := tn cq2 h
  by_cases cq3 : p0 = 3
  · replace h := tp cq3 h
    refine lv_tableIn (off := 65) (tgt := 66) hx hb dX6_told_1 (by rw [cq3]; decide) (by rw [cq3]; decide) (by rw [cq3]; rfl) (by decide) ?_
    refine lv_aload_n hx hb dX6_told_66 rfl (lv_at hl 0 rfl) ?_
    refine r_getr hC hW 0 (Nat.le_of_ble_eq_true rfl) rfl rfl rfl (by decide) inUX6 (hts _ wd_175) rfl dX6_told_67 ?_
    refine r_getrN hC hW 1 (Nat.le_of_ble_eq_true rfl) rfl rfl rfl (by decide) inUX4 (hC.2.2.use nf_RX6_65 rfl) rfl dX6_told_70 ?_
    refine r_getiN hC hW 0 (Nat.le_of_ble_eq_true rfl) rfl rfl rfl (by decide) inUX2 (hC.2.2.use nf_RX6_69 rfl) rfl dX6_told_73 ?_
    exact r_iretP hC hr hlocks h hW dX6_told_76
  replace h := tn cq3 h
  by_cases cq4 : p0 = 4
  · replace h := tp cq4 h
    refine lv_tableIn (off := 76) (tgt := 77) hx hb dX6_told_1 (by rw [cq4]; decide) (by rw [cq4]; decide) (by rw [cq4]; rfl) (by decide) ?_
    refine lv_aload_n hx hb dX6_told_77 rfl (lv_at hl 0 rfl) ?_
    refine r_getr hC hW 0 (Nat.le_of_ble_eq_true rfl) rfl rfl rfl (by decide) inUX6 (hts _ wd_175) rfl dX6_told_78 ?_
    refine r_getrN hC hW 1 (Nat.le_of_ble_eq_true rfl) rfl rfl rfl (by decide) inUX4 (hC.2.2.use nf_RX6_65 rfl) rfl dX6_told_81 ?_
    refine r_getiN hC hW 1 (Nat.le_of_ble_eq_true rfl) rfl rfl rfl (by decide) inUX2 (hC.2.2.use nf_RX6_74 rfl) rfl dX6_told_84 ?_
    exact r_iretP hC hr hlocks h hW dX6_told_87
  replace h := tn cq4 h
  refine lv_tableOut (tgt := 88) hx hb dX6_told_1 (by have z0 := ti_ne cq0; have z1 := ti_ne cq1; have z2 := ti_ne cq2; have z3 := ti_ne cq3; have z4 := ti_ne cq4; simp only [ti_0, ti_1, ti_2, ti_3, ti_4] at z0 z1 z2 z3 z4; omega) (by decide) ?_
  refine lv_iload_n hx hb dX6_told_88 rfl (lv_at hl 1 rfl) ?_
  refine lv_bipush (v := 10) hx hb dX6_told_89 (by decide) ?_
  refine lv_bipush (v := 10) hx hb dX6_told_91 (by decide) ?_
  refine lv_aload_n hx hb dX6_told_93 rfl (lv_at hl 0 rfl) ?_
  refine r_getr hC hW 0 (Nat.le_of_ble_eq_true rfl) rfl rfl rfl (by decide) inUX6 (hts _ wd_175) rfl dX6_told_94 ?_
  refine r_getrN hC hW 0 (Nat.le_of_ble_eq_true rfl) rfl rfl rfl (by decide) inUX4 (hC.2.2.use nf_RX6_50 rfl) rfl dX6_told_97 ?_
  refine r_getiN hC hW 0 (Nat.le_of_ble_eq_true rfl) rfl rfl rfl (by decide) inUX0 (hC.2.2.use nf_RX6_61 rfl) rfl dX6_told_100 ?_
  refine lv_iadd hx hb dX6_told_103 ?_
  refine lv_iconst (v := 1) hx hb dX6_told_104 (by decide) ?_
  refine lv_isub hx hb dX6_told_105 ?_
  replace h := bd h
  obtain ⟨r1, hc, h⟩ := h
  refine r_calli hW (va_runS (As := [.int p0, .int 10, .int ((10 + (σ 2 0)) - 1)]) (rest := []) hC.1 (c_X6_isWithin l D cy ad A _ _ _ _ _ hc) (va_cwS 3 hts (gdS wd_101 wd_102 wd_5 wd_100) rfl rfl rfl (by decide +kernel) ⟨Nat.le_of_ble_eq_true rfl, Nat.le_of_ble_eq_true rfl⟩) (r_preS hC hW) rfl rfl hl.1 rfl (lv_room (Nat.le_of_ble_eq_true rfl)) dX6_told_106 ⟨Nat.zero_le _, Nat.zero_le _⟩) (fun H locs hWn => ?_)
  replace hW := hWn
  clear hWn hc
  refine lv_if_eq (tgt := 130) hx hb dX6_told_109 (by decide) (fun cq => ?_) (fun cq => ?_)
  · replace h := tp cq h
    refine lv_iload_n hx hb dX6_told_130 rfl (lv_at hl 1 rfl) ?_
    refine lv_bipush (v := 20) hx hb dX6_told_131 (by decide) ?_
    refine lv_icmp_ge (tgt := 139) hx hb dX6_told_133 (by decide) (fun cq => ?_) (fun cq => ?_)
    · replace h := tp cq h
      refine lv_iload_n hx hb dX6_told_139 rfl (lv_at hl 1 rfl) ?_
      refine lv_bipush (v := 10) hx hb dX6_told_140 (by decide) ?_
      refine lv_idiv hx hb dX6_told_142 (by decide) ?_
      refine lv_iconst (v := 2) hx hb dX6_told_143 (by decide) ?_
      refine lv_isub hx hb dX6_told_144 ?_
      replace h := bx h
      obtain ⟨x2, ex2, h⟩ := h
      refine tope ex2 ?_
      clear ex2
      refine lv_istore_n (lv' := [(2, .int x2), (0, .ref (ad 0)), (1, .int p0)]) hx hb dX6_told_145 rfl hl (by decide) rfl (fun ls hln => ?_)
      replace hl := hln
      clear hln
      refine lv_iload_n hx hb dX6_told_146 rfl (lv_at hl 2 rfl) ?_
      refine lv_bipush (v := 10) hx hb dX6_told_147 (by decide) ?_
      refine lv_irem hx hb dX6_told_149 (by decide) ?_
      replace h := bx h
      obtain ⟨x3, ex3, h⟩ := h
      refine tope ex3 ?_
      clear ex3
      refine lv_istore_n (lv' := [(3, .int x3), (2, .int x2), (0, .ref (ad 0)), (1, .int p0)]) hx hb dX6_told_150 rfl hl (by decide) rfl (fun ls hln => ?_)
      replace hl := hln
      clear hln
      refine lv_aload_n hx hb dX6_told_151 rfl (lv_at hl 2 rfl) ?_
      refine r_getr hC hW 0 (Nat.le_of_ble_eq_true rfl) rfl rfl rfl (by decide) inUX6 (hts _ wd_175) rfl dX6_told_152 ?_
      refine r_getrN hC hW 0 (Nat.le_of_ble_eq_true rfl) rfl rfl rfl (by decide) inUX4 (hC.2.2.use nf_RX6_50 rfl) rfl dX6_told_155 ?_
      refine lv_iload_n hx hb dX6_told_158 rfl (lv_at hl 1 rfl) ?_
      replace h := bd h
      obtain ⟨r4, hc, h⟩ := h
      refine r_calli hW (va_runVN (As := [.int x2]) (rest := []) hC.1 (c_X0_has l D cy ad A 2 (c_coop 2 rfl) _ _ _ hc) ⟨va_cnB 1 hts (gdN wd_202) rfl rfl rfl (NL.at hC.2.2 nw_RX6_77 rfl) (hts _ wd_12) (by decide +kernel) ⟨Nat.le_of_ble_eq_true rfl, Nat.le_of_ble_eq_true rfl⟩, hts _ wd_203, hts _ wd_204⟩ (r_preV hC hW (Nat.le_of_ble_eq_true rfl) rfl rfl) rfl rfl hl.1 rfl (lv_room (Nat.le_of_ble_eq_true rfl)) dX6_told_159 ⟨Nat.zero_le _, Nat.zero_le _⟩) (fun H locs hWn => ?_)
      replace hW := hWn
      clear hWn hc
      refine lv_if_eq (tgt := 185) hx hb dX6_told_162 (by decide) (fun cq => ?_) (fun cq => ?_)
      · replace h := tp cq h
        exact J185  h _ _ hW _ (lv_sub hl [] rfl)
      · replace h := tn cq h
        refine lv_iload_n hx hb dX6_told_165 rfl (lv_at hl 0 rfl) ?_
        refine lv_iconst (v := 5) hx hb dX6_told_166 (by decide) ?_
        refine lv_icmp_ge (tgt := 185) hx hb dX6_told_167 (by decide) (fun cq => ?_) (fun cq => ?_)
        · replace h := tp cq h
          exact J185  h _ _ hW _ (lv_sub hl [] rfl)
        · replace h := tn cq h
          refine lv_aload_n hx hb dX6_told_170 rfl (lv_at hl 2 rfl) ?_
          refine r_getr hC hW 0 (Nat.le_of_ble_eq_true rfl) rfl rfl rfl (by decide) inUX6 (hts _ wd_175) rfl dX6_told_171 ?_
          refine r_getrN hC hW 0 (Nat.le_of_ble_eq_true rfl) rfl rfl rfl (by decide) inUX4 (hC.2.2.use nf_RX6_50 rfl) rfl dX6_told_174 ?_
          refine lv_iload_n hx hb dX6_told_177 rfl (lv_at hl 1 rfl) ?_
          refine lv_iload_n hx hb dX6_told_178 rfl (lv_at hl 0 rfl) ?_
          replace h := bd h
          obtain ⟨r5, hc, h⟩ := h
          refine r_calli hW (va_runVN (As := [.int x2, .int x3]) (rest := []) hC.1 (c_X0_fact l D cy ad A 2 (c_coop 2 rfl) _ _ _ _ hc) ⟨va_cnB 2 hts (gdN wd_17) rfl rfl rfl (NL.at hC.2.2 nw_RX6_88 rfl) (hts _ wd_12) (by decide +kernel) ⟨Nat.le_of_ble_eq_true rfl, Nat.le_of_ble_eq_true rfl⟩, hts _ wd_19, hts _ wd_20⟩ (r_preV hC hW (Nat.le_of_ble_eq_true rfl) rfl rfl) rfl rfl hl.1 rfl (lv_room (Nat.le_of_ble_eq_true rfl)) dX6_told_179 ⟨Nat.zero_le _, Nat.zero_le _⟩) (fun H locs hWn => ?_)
          replace hW := hWn
          clear hWn hc
          refine lv_goto (tgt := 187) hx hb dX6_told_182 (by decide) ?_
          exact r_iretP hC hr hlocks h hW dX6_told_187
    · replace h := tn cq h
      refine lv_bipush (v := (-2)) hx hb dX6_told_136 (by decide) ?_
      exact r_iretP hC hr hlocks h hW dX6_told_138
  · replace h := tn cq h
    refine lv_aload_n hx hb dX6_told_112 rfl (lv_at hl 0 rfl) ?_
    refine r_getr hC hW 0 (Nat.le_of_ble_eq_true rfl) rfl rfl rfl (by decide) inUX6 (hts _ wd_175) rfl dX6_told_113 ?_
    refine r_getrN hC hW 0 (Nat.le_of_ble_eq_true rfl) rfl rfl rfl (by decide) inUX4 (hC.2.2.use nf_RX6_50 rfl) rfl dX6_told_116 ?_
    refine r_getrN hC hW 2 (Nat.le_of_ble_eq_true rfl) rfl rfl rfl (by decide) inUX0 (hC.2.2.use nf_RX6_120 rfl) rfl dX6_told_119 ?_
    refine lv_iload_n hx hb dX6_told_122 rfl (lv_at hl 1 rfl) ?_
    refine lv_bipush (v := 10) hx hb dX6_told_123 (by decide) ?_
    refine lv_isub hx hb dX6_told_125 ?_
    replace h := bd h
    obtain ⟨r6, hc, h⟩ := h
    refine r_calli hW (va_runS (As := [.ref (ad 3), .int (p0 - 10)]) (rest := []) hC.1 (c_X6_at l D cy ad A 3 7 ⟨Nat.le_of_ble_eq_true rfl, rfl⟩ _ _ _ hc) (va_cwS 2 hts (gdS wd_212 wd_6 wd_5 wd_4) rfl rfl rfl (by decide +kernel) ⟨Nat.le_of_ble_eq_true rfl, Nat.le_of_ble_eq_true rfl⟩) (r_preS hC hW) rfl rfl hl.1 rfl (lv_room (Nat.le_of_ble_eq_true rfl)) dX6_told_126 ⟨Nat.zero_le _, Nat.zero_le _⟩) (fun H locs hWn => ?_)
    replace hW := hWn
    clear hWn hc
    exact r_iretP hC hr hlocks h hW dX6_told_129
set_option maxHeartbeats 4000000 in
set_option maxRecDepth 100000 in
theorem c_X6_wipe (l : Launch) (D : va_G) (cy : ClassId × ClassId) (ad : Nat → Nat) (A : Nat → Prop) (σ : Hp) (r : Int32) (σ' : Hp) (h : t_X6_wipe σ = some (r, σ')) : Ci l yX6_wipe us_X6_wipe ({ frames := 0, cells := 0, slots := 0, locals := 0 } : Room) D cy 55 shX ad A [.ref (ad 0)] σ r σ' := by
  unfold t_X6_wipe at h
  refine Met.ofW (cc := cX6_wipe) (maxL := 2) (ret := (some .int)) (by decide) rfl ?_
  intro p e s m args below meth c s₁ B hml hv
  obtain ⟨rfl, hP, hK, hD, hA, hN⟩ := hv
  have hx := B.exec
  have hb := B.bytes
  have hr := B.returns
  have hlocks := B.notSynchronized
  have hts : ∀ w ∈ wsU, w.before _ s = true := fun w h => atoms_spec (ws := us_X6_wipe) B.pre w (List.mem_cons_of_mem _ h)
  have hown : s.vm.findClass RX6 = some m.cls := findClass_of_methodNamed B.named
  have hC : Cx p m c cX6_wipe 2 s _ wsU RX6 D cy := ⟨⟨hx, hb, hml, hown, hts⟩, hK, hN⟩
  have hW : Wd D cy 55 shX ad A s.heap σ s.heap [] := ⟨hP, hD, va_S.rf, hA⟩
  have hl := lv_entry ([.ref (ad 0)]) (n := 2) (Nat.le_of_ble_eq_true rfl)
  rw [lg_entry_eq]
  generalize (lg_sl ([.ref (ad 0)]) ++ List.replicate (2 - (lg_sl ([.ref (ad 0)])).length) Slot.unset).toArray = ls at hl ⊢
  have hl : lv_has ls 2 [(0, .ref (ad 0))] := hl
  refine lv_aload_n hx hb dX6_wipe_0 rfl (lv_at hl 0 rfl) ?_
  refine r_getr hC hW 3 (Nat.le_of_ble_eq_true rfl) rfl rfl rfl (by decide) inUX6 (hts _ wd_182) rfl dX6_wipe_1 ?_
  refine r_getiN hC hW 0 (Nat.le_of_ble_eq_true rfl) rfl rfl rfl (by decide) inUX3 (hC.2.2.use nf_RX6_105 rfl) rfl dX6_wipe_4 ?_
  replace h := bx h
  obtain ⟨x1, ex1, h⟩ := h
  refine tope ex1 ?_
  clear ex1
  refine lv_istore_n (lv' := [(1, .int x1), (0, .ref (ad 0))]) hx hb dX6_wipe_7 rfl hl (by decide) rfl (fun ls hln => ?_)
  replace hl := hln
  clear hln
  refine lv_aload_n hx hb dX6_wipe_8 rfl (lv_at hl 1 rfl) ?_
  refine r_getr hC hW 3 (Nat.le_of_ble_eq_true rfl) rfl rfl rfl (by decide) inUX6 (hts _ wd_182) rfl dX6_wipe_9 ?_
  refine lv_iconst (v := 0) hx hb dX6_wipe_12 (by decide) ?_
  refine r_putN hC hW 0 (Nat.le_of_ble_eq_true rfl) rfl rfl rfl (by decide) inUX3 tyX3 tyX3_ok nmX3 (hC.2.2.use nf_RX6_105 rfl) rfl rfl ⟨rfl, rfl⟩ dX6_wipe_13 (fun σ2 eσ2 H locs hWn => ?_)
  replace h := bn eσ2 h
  replace hW := hWn
  clear hWn eσ2
  refine lv_iload_n hx hb dX6_wipe_16 rfl (lv_at hl 0 rfl) ?_
  exact r_iretW hC hr hlocks h hW dX6_wipe_17
set_option maxHeartbeats 4000000 in
set_option maxRecDepth 100000 in
theorem c_X6_year (l : Launch) (D : va_G) (cy : ClassId × ClassId) (ad : Nat → Nat) (A : Nat → Prop) (N : Nat) (p0 : Int32) (p1 : Int32) (p2 : Int32) (σ : Hp) (r : Int32) (σ' : Hp) (h : t_X6_year N p0 p1 p2 σ = some (r, σ')) : Ci l yX6_year us_X6_year ({ frames := 4, cells := 0, slots := 0, locals := 91 } : Room) D cy 55 shX ad A [.ref (ad 0), .int p0, .int p1, .int p2] σ r σ' := by
  unfold t_X6_year at h
  refine Met.ofW (cc := cX6_year) (maxL := 10) (ret := (some .int)) (by decide) rfl ?_
  intro p e s m args below meth c s₁ B hml hv
  obtain ⟨rfl, hP, hK, hD, hA, hN⟩ := hv
  have hx := B.exec
  have hb := B.bytes
  have hr := B.returns
  have hlocks := B.notSynchronized
  have hts : ∀ w ∈ wsU, w.before _ s = true := fun w h => atoms_spec (ws := us_X6_year) B.pre w (List.mem_cons_of_mem _ h)
  have hown : s.vm.findClass RX6 = some m.cls := findClass_of_methodNamed B.named
  have hC : Cx p m c cX6_year 10 s _ wsU RX6 D cy := ⟨⟨hx, hb, hml, hown, hts⟩, hK, hN⟩
  have hW : Wd D cy 55 shX ad A s.heap σ s.heap [] := ⟨hP, hD, va_S.rf, hA⟩
  have hl := lv_entry ([.ref (ad 0), .int p0, .int p1, .int p2]) (n := 10) (Nat.le_of_ble_eq_true rfl)
  rw [lg_entry_eq]
  generalize (lg_sl ([.ref (ad 0), .int p0, .int p1, .int p2]) ++ List.replicate (10 - (lg_sl ([.ref (ad 0), .int p0, .int p1, .int p2])).length) Slot.unset).toArray = ls at hl ⊢
  have hl : lv_has ls 10 [(0, .ref (ad 0)), (1, .int p0), (2, .int p1), (3, .int p2)] := hl
  have L62 : ∀ (f : Nat) (v2 : Int32) (v3 : Int32) (v4 : Int32) (v5 : Int32) (v6 : Int32) (v7 : Int32) (v8 : Int32) (σ : Hp), t_X6_year_62 N f v2 v3 v4 v5 v6 v7 v8 σ = some (r, σ') → ∀ (H : Heap) (locs : List Loc), Wd D cy 55 shX ad A s.heap σ H locs → ∀ ls : Array Slot, lv_has ls 10 [(0, .ref (ad 0)), (2, .int v2), (3, .int v3), (4, .int v4), (5, .int v5), (6, .int v6), (7, .int v7), (8, .int v8)] → Gi p l e us_X6_year ({ frames := 4, cells := 0, slots := 0, locals := 91 } : Room) s m [.ref (ad 0), .int p0, .int p1, .int p2] below meth c D cy 55 shX ad A r σ' H locs (F0 m 62 ls []) := by
    intro f
    unfold t_X6_year_62
    refine loopG_ind (fun (T : Int32 → Int32 → Int32 → Int32 → Int32 → Int32 → Int32 → Hp → Option (Int32 × Hp)) => ∀ (v2 : Int32) (v3 : Int32) (v4 : Int32) (v5 : Int32) (v6 : Int32) (v7 : Int32) (v8 : Int32) (σ : Hp), T v2 v3 v4 v5 v6 v7 v8 σ = some (r, σ') → ∀ (H : Heap) (locs : List Loc), Wd D cy 55 shX ad A s.heap σ H locs → ∀ ls : Array Slot, lv_has ls 10 [(0, .ref (ad 0)), (2, .int v2), (3, .int v3), (4, .int v4), (5, .int v5), (6, .int v6), (7, .int v7), (8, .int v8)] → Gi p l e us_X6_year ({ frames := 4, cells := 0, slots := 0, locals := 91 } : Room) s m [.ref (ad 0), .int p0, .int p1, .int p2] below meth c D cy 55 shX ad A r σ' H locs (F0 m 62 ls [])) ?_ ?_ f
    · intro v2 v3 v4 v5 v6 v7 v8 σ h; exact absurd h (by simp)
    · intro k62 ih62
      have J136 : ∀ (v2 : Int32) (v3 : Int32) (v4 : Int32) (v5 : Int32) (v6 : Int32) (v7 : Int32) (v8 : Int32) (σ : Hp), t_X6_year_136 N k62 v2 v3 v4 v5 v6 v7 v8 σ = some (r, σ') → ∀ (H : Heap) (locs : List Loc), Wd D cy 55 shX ad A s.heap σ H locs → ∀ ls : Array Slot, lv_has ls 10 [(0, .ref (ad 0)), (2, .int v2), (3, .int v3), (4, .int v4), (5, .int v5), (6, .int v6), (7, .int v7), (8, .int v8)] → Gi p l e us_X6_year ({ frames := 4, cells := 0, slots := 0, locals := 91 } : Room) s m [.ref (ad 0), .int p0, .int p1, .int p2] below meth c D cy 55 shX ad A r σ' H locs (F0 m 136 ls []) := by
        intro v2 v3 v4 v5 v6 v7 v8 σ h H locs hW ls hl
        unfold t_X6_year_136 at h
        replace h := bx h
        obtain ⟨x1, ex1, h⟩ := h
        refine lv_iinc (v := x1) (lv' := [(8, .int x1), (0, .ref (ad 0)), (2, .int v2), (3, .int v3), (4, .int v4), (5, .int v5), (6, .int v6), (7, .int v7)]) hx hb dX6_year_136 hl (k := 7) rfl (by rw [ex1]; rfl) (by decide) rfl (fun ls hln => ?_)
        replace hl := hln
        clear hln ex1
        refine lv_goto (tgt := 62) hx hb dX6_year_139 (by decide) ?_
        exact ih62 _ _ _ _ _ _ _ _ h _ _ hW _ (lv_sub hl [1, 2, 3, 4, 5, 6, 7, 0] rfl)
      intro v2 v3 v4 v5 v6 v7 v8 σ h H locs hW ls hl
      refine lv_iload hx hb dX6_year_62 (lv_at hl 7 rfl) ?_
      refine lv_iload_n hx hb dX6_year_64 rfl (lv_at hl 1 rfl) ?_
      refine lv_icmp_gt (tgt := 142) hx hb dX6_year_65 (by decide) (fun cq => ?_) (fun cq => ?_)
      · replace h := tp cq h
        refine lv_iload_n hx hb dX6_year_142 rfl (lv_at hl 2 rfl) ?_
        refine lv_if_ne (tgt := 149) hx hb dX6_year_143 (by decide) (fun cq => ?_) (fun cq => ?_)
        · replace h := tn cq h
          refine lv_iload_n hx hb dX6_year_149 rfl (lv_at hl 2 rfl) ?_
          refine lv_iconst (v := 1) hx hb dX6_year_150 (by decide) ?_
          refine lv_icmp_ne (tgt := 159) hx hb dX6_year_151 (by decide) (fun cq => ?_) (fun cq => ?_)
          · replace h := tn cq h
            refine lv_iload hx hb dX6_year_159 (lv_at hl 6 rfl) ?_
            exact r_iretW hC hr hlocks h hW dX6_year_161
          · replace h := tp cq h
            refine lv_iload hx hb dX6_year_154 (lv_at hl 5 rfl) ?_
            refine lv_goto (tgt := 161) hx hb dX6_year_156 (by decide) ?_
            exact r_iretW hC hr hlocks h hW dX6_year_161
        · replace h := tp cq h
          refine lv_iload hx hb dX6_year_146 (lv_at hl 4 rfl) ?_
          exact r_iretW hC hr hlocks h hW dX6_year_148
      · replace h := tn cq h
        refine lv_bipush (v := 75) hx hb dX6_year_68 (by decide) ?_
        refine lv_iload hx hb dX6_year_70 (lv_at hl 3 rfl) ?_
        refine lv_imul hx hb dX6_year_72 ?_
        refine lv_bipush (v := 74) hx hb dX6_year_73 (by decide) ?_
        refine lv_iadd hx hb dX6_year_75 ?_
        refine lv_ldc hx hb hown (hts _ wd_292) dX6_year_76 ?_
        refine lv_irem hx hb dX6_year_78 (by decide) ?_
        replace h := bx h
        obtain ⟨x2, ex2, h⟩ := h
        refine tope ex2 ?_
        clear ex2
        refine lv_istore (lv' := [(4, .int x2), (0, .ref (ad 0)), (2, .int v2), (3, .int v3), (5, .int v5), (6, .int v6), (7, .int v7), (8, .int v8)]) hx hb dX6_year_79 hl (by decide) rfl (fun ls hln => ?_)
        replace hl := hln
        clear hln
        refine lv_aload_n hx hb dX6_year_81 rfl (lv_at hl 1 rfl) ?_
        refine r_getr hC hW 6 (Nat.le_of_ble_eq_true rfl) rfl rfl rfl (by decide) inUX6 (hts _ wd_293) rfl dX6_year_82 ?_
        refine lv_iload hx hb dX6_year_85 (lv_at hl 0 rfl) ?_
        refine lv_bipush (v := 6) hx hb dX6_year_87 (by decide) ?_
        refine lv_irem hx hb dX6_year_89 (by decide) ?_
        replace h := bd h
        obtain ⟨σ3, hc, h⟩ := h
        refine r_callv hW (va_runVN (As := [.int (x2 - x2 / 6 * 6)]) (rest := []) hC.1 (c_X0_turnStove l D cy ad A 52 (c_coop 52 rfl) _ _ _ hc) ⟨va_cnB 1 hts (gdN wd_109) rfl rfl rfl (NL.at hC.2.2 nw_RX6_102 rfl) (hts _ wd_12) (by decide +kernel) ⟨Nat.le_of_ble_eq_true rfl, Nat.le_of_ble_eq_true rfl⟩, hts _ wd_110, hts _ wd_111⟩ (r_preV hC hW (Nat.le_of_ble_eq_true rfl) rfl rfl) rfl rfl hl.1 rfl (lv_room (Nat.le_of_ble_eq_true rfl)) dX6_year_90 ⟨Nat.zero_le _, Nat.zero_le _⟩) (fun H locs hWn => ?_)
        replace hW := hWn
        clear hWn hc
        refine lv_iload hx hb dX6_year_93 (lv_at hl 6 rfl) ?_
        refine lv_aload_n hx hb dX6_year_95 rfl (lv_at hl 1 rfl) ?_
        refine r_getr hC hW 6 (Nat.le_of_ble_eq_true rfl) rfl rfl rfl (by decide) inUX6 (hts _ wd_293) rfl dX6_year_96 ?_
        refine r_getiN hC hW 1 (Nat.le_of_ble_eq_true rfl) rfl rfl rfl (by decide) inUX0 (hC.2.2.use nf_RX6_96 rfl) rfl dX6_year_99 ?_
        replace h := bd h
        obtain ⟨r4, hc, h⟩ := h
        refine r_calli hW (va_runS (As := [.int (σ3 52 1)]) (rest := [.int v7]) hC.1 (c_J6_bitCount_0f7a4 l D cy ad A _ _ _ hc) (va_cwS 1 hts (gdS wd_257 wd_153 wd_154 wd_151) rfl rfl rfl (by decide +kernel) ⟨Nat.le_of_ble_eq_true rfl, Nat.le_of_ble_eq_true rfl⟩) (r_preS hC hW) rfl rfl hl.1 rfl (lv_room (Nat.le_of_ble_eq_true rfl)) dX6_year_102 ⟨Nat.zero_le _, Nat.zero_le _⟩) (fun H locs hWn => ?_)
        replace hW := hWn
        clear hWn hc
        refine lv_iadd hx hb dX6_year_105 ?_
        replace h := bx h
        obtain ⟨x5, ex5, h⟩ := h
        refine tope ex5 ?_
        clear ex5
        refine lv_istore (lv' := [(7, .int x5), (4, .int x2), (0, .ref (ad 0)), (2, .int v2), (3, .int v3), (5, .int v5), (6, .int v6), (8, .int v8)]) hx hb dX6_year_106 hl (by decide) rfl (fun ls hln => ?_)
        replace hl := hln
        clear hln
        refine lv_aload_n hx hb dX6_year_108 rfl (lv_at hl 2 rfl) ?_
        refine r_getr hC hW 6 (Nat.le_of_ble_eq_true rfl) rfl rfl rfl (by decide) inUX6 (hts _ wd_293) rfl dX6_year_109 ?_
        replace h := ob h
        obtain ⟨r6, σ7, hc, h⟩ := h
        refine r_calli hW (va_runVN (As := []) (rest := []) hC.1 (c_X0_passHour l D cy ad A N 52 (c_coop 52 rfl) _ _ _ hc) ⟨va_cnB 0 hts (gdN wd_148) rfl rfl rfl (NL.at hC.2.2 nw_RX6_247 rfl) (hts _ wd_12) (by decide +kernel) ⟨Nat.le_of_ble_eq_true rfl, Nat.le_of_ble_eq_true rfl⟩, hts _ wd_149, hts _ wd_150⟩ (r_preV hC hW (Nat.le_of_ble_eq_true rfl) rfl rfl) rfl rfl hl.1 rfl (lv_room (Nat.le_of_ble_eq_true rfl)) dX6_year_112 ⟨Nat.zero_le _, Nat.zero_le _⟩) (fun H locs hWn => ?_)
        replace hW := hWn
        clear hWn hc
        replace h := bd h
        obtain ⟨r8, hc, h⟩ := h
        refine r_calli hW (va_runS (As := [.int r6]) (rest := []) hC.1 (c_J6_bitCount_0f7a4 l D cy ad A _ _ _ hc) (va_cwS 1 hts (gdS wd_257 wd_153 wd_154 wd_151) rfl rfl rfl (by decide +kernel) ⟨Nat.le_of_ble_eq_true rfl, Nat.le_of_ble_eq_true rfl⟩) (r_preS hC hW) rfl rfl hl.1 rfl (lv_room (Nat.le_of_ble_eq_true rfl)) dX6_year_115 ⟨Nat.zero_le _, Nat.zero_le _⟩) (fun H locs hWn => ?_)
        replace hW := hWn
        clear hWn hc
        refine lv_istore (lv' := [(9, .int r8), (7, .int x5), (4, .int x2), (0, .ref (ad 0)), (2, .int v2), (3, .int v3), (5, .int v5), (6, .int v6), (8, .int v8)]) hx hb dX6_year_118 hl (by decide) rfl (fun ls hln => ?_)
        replace hl := hln
        clear hln
        refine lv_iload hx hb dX6_year_120 (lv_at hl 6 rfl) ?_
        refine lv_iload hx hb dX6_year_122 (lv_at hl 0 rfl) ?_
        refine lv_iadd hx hb dX6_year_124 ?_
        replace h := bx h
        obtain ⟨x9, ex9, h⟩ := h
        refine tope ex9 ?_
        clear ex9
        refine lv_istore (lv' := [(5, .int x9), (9, .int r8), (7, .int x5), (4, .int x2), (0, .ref (ad 0)), (2, .int v2), (3, .int v3), (6, .int v6), (8, .int v8)]) hx hb dX6_year_125 hl (by decide) rfl (fun ls hln => ?_)
        replace hl := hln
        clear hln
        refine lv_iload hx hb dX6_year_127 (lv_at hl 1 rfl) ?_
        refine lv_if_le (tgt := 136) hx hb dX6_year_129 (by decide) (fun cq => ?_) (fun cq => ?_)
        · replace h := tp cq h
          exact J136 _ _ _ _ _ _ _ _ h _ _ hW _ (lv_sub hl [4, 5, 6, 3, 0, 7, 2, 8] rfl)
        · replace h := tn cq h
          refine lv_iload hx hb dX6_year_132 (lv_at hl 8 rfl) ?_
          refine lv_istore (lv' := [(6, .int v8), (5, .int x9), (9, .int r8), (7, .int x5), (4, .int x2), (0, .ref (ad 0)), (2, .int v2), (3, .int v3), (8, .int v8)]) hx hb dX6_year_134 hl (by decide) rfl (fun ls hln => ?_)
          replace hl := hln
          clear hln
          exact J136 _ _ _ _ _ _ _ _ h _ _ hW _ (lv_sub hl [5, 6, 7, 4, 1, 0, 3, 8] rfl)
  refine lv_iload_n hx hb dX6_year_0 rfl (lv_at hl 1 rfl) ?_
  refine lv_iconst (v := 0) hx hb dX6_year_1 (by decide) ?_
  refine lv_sipush (v := 9999) hx hb dX6_year_2 (by decide) ?_
  replace h := bd h
  obtain ⟨r10, hc, h⟩ := h
  refine r_calli hW (va_runS (As := [.int p0, .int 0, .int 9999]) (rest := []) hC.1 (c_X6_isWithin l D cy ad A _ _ _ _ _ hc) (va_cwS 3 hts (gdS wd_101 wd_102 wd_5 wd_100) rfl rfl rfl (by decide +kernel) ⟨Nat.le_of_ble_eq_true rfl, Nat.le_of_ble_eq_true rfl⟩) (r_preS hC hW) rfl rfl hl.1 rfl (lv_room (Nat.le_of_ble_eq_true rfl)) dX6_year_5 ⟨Nat.zero_le _, Nat.zero_le _⟩) (fun H locs hWn => ?_)
  replace hW := hWn
  clear hWn hc
  refine lv_if_eq (tgt := 30) hx hb dX6_year_8 (by decide) (fun cq => ?_) (fun cq => ?_)
  · replace h := tp cq h
    refine lv_bipush (v := (-2)) hx hb dX6_year_30 (by decide) ?_
    exact r_iretW hC hr hlocks h hW dX6_year_32
  · replace h := tn cq h
    refine lv_iload_n hx hb dX6_year_11 rfl (lv_at hl 2 rfl) ?_
    refine lv_iconst (v := 1) hx hb dX6_year_12 (by decide) ?_
    refine lv_bipush (v := 99) hx hb dX6_year_13 (by decide) ?_
    replace h := bd h
    obtain ⟨r11, hc, h⟩ := h
    refine r_calli hW (va_runS (As := [.int p1, .int 1, .int 99]) (rest := []) hC.1 (c_X6_isWithin l D cy ad A _ _ _ _ _ hc) (va_cwS 3 hts (gdS wd_101 wd_102 wd_5 wd_100) rfl rfl rfl (by decide +kernel) ⟨Nat.le_of_ble_eq_true rfl, Nat.le_of_ble_eq_true rfl⟩) (r_preS hC hW) rfl rfl hl.1 rfl (lv_room (Nat.le_of_ble_eq_true rfl)) dX6_year_15 ⟨Nat.zero_le _, Nat.zero_le _⟩) (fun H locs hWn => ?_)
    replace hW := hWn
    clear hWn hc
    refine lv_if_eq (tgt := 30) hx hb dX6_year_18 (by decide) (fun cq => ?_) (fun cq => ?_)
    · replace h := tp cq h
      refine lv_bipush (v := (-2)) hx hb dX6_year_30 (by decide) ?_
      exact r_iretW hC hr hlocks h hW dX6_year_32
    · replace h := tn cq h
      refine lv_iload_n hx hb dX6_year_21 rfl (lv_at hl 3 rfl) ?_
      refine lv_iconst (v := 0) hx hb dX6_year_22 (by decide) ?_
      refine lv_iconst (v := 2) hx hb dX6_year_23 (by decide) ?_
      replace h := bd h
      obtain ⟨r12, hc, h⟩ := h
      refine r_calli hW (va_runS (As := [.int p2, .int 0, .int 2]) (rest := []) hC.1 (c_X6_isWithin l D cy ad A _ _ _ _ _ hc) (va_cwS 3 hts (gdS wd_101 wd_102 wd_5 wd_100) rfl rfl rfl (by decide +kernel) ⟨Nat.le_of_ble_eq_true rfl, Nat.le_of_ble_eq_true rfl⟩) (r_preS hC hW) rfl rfl hl.1 rfl (lv_room (Nat.le_of_ble_eq_true rfl)) dX6_year_24 ⟨Nat.zero_le _, Nat.zero_le _⟩) (fun H locs hWn => ?_)
      replace hW := hWn
      clear hWn hc
      refine lv_if_ne (tgt := 33) hx hb dX6_year_27 (by decide) (fun cq => ?_) (fun cq => ?_)
      · replace h := tn cq h
        refine lv_aload_n hx hb dX6_year_33 rfl (lv_at hl 0 rfl) ?_
        refine r_getr hC hW 6 (Nat.le_of_ble_eq_true rfl) rfl rfl rfl (by decide) inUX6 (hts _ wd_293) rfl dX6_year_34 ?_
        refine lv_aload_n hx hb dX6_year_37 rfl (lv_at hl 0 rfl) ?_
        refine r_getr hC hW 0 (Nat.le_of_ble_eq_true rfl) rfl rfl rfl (by decide) inUX6 (hts _ wd_175) rfl dX6_year_38 ?_
        refine r_getrN hC hW 0 (Nat.le_of_ble_eq_true rfl) rfl rfl rfl (by decide) inUX4 (hC.2.2.use nf_RX6_50 rfl) rfl dX6_year_41 ?_
        replace h := bd h
        obtain ⟨σ13, hc, h⟩ := h
        refine r_callv hW (va_runVN (As := [.ref (ad 2)]) (rest := []) hC.1 (c_X0_copyFrom l D cy ad A N 52 (c_coop 52 rfl) 2 (c_coop 2 rfl) _ _ hc) ⟨va_cnB 1 hts (gdN wd_116) rfl rfl rfl (NL.at hC.2.2 nw_RX6_165 rfl) (hts _ wd_12) (by decide +kernel) ⟨Nat.le_of_ble_eq_true rfl, Nat.le_of_ble_eq_true rfl⟩, hts _ wd_117, hts _ wd_118⟩ (r_preV hC hW (Nat.le_of_ble_eq_true rfl) rfl rfl) rfl rfl hl.1 rfl (lv_room (Nat.le_of_ble_eq_true rfl)) dX6_year_44 ⟨Nat.zero_le _, Nat.zero_le _⟩) (fun H locs hWn => ?_)
        replace hW := hWn
        clear hWn hc
        refine lv_iload_n hx hb dX6_year_47 rfl (lv_at hl 1 rfl) ?_
        refine lv_istore (lv' := [(4, .int p0), (0, .ref (ad 0)), (1, .int p0), (2, .int p1), (3, .int p2)]) hx hb dX6_year_48 hl (by decide) rfl (fun ls hln => ?_)
        replace hl := hln
        clear hln
        refine lv_iconst (v := 0) hx hb dX6_year_50 (by decide) ?_
        refine lv_istore (lv' := [(5, .int 0), (4, .int p0), (0, .ref (ad 0)), (1, .int p0), (2, .int p1), (3, .int p2)]) hx hb dX6_year_51 hl (by decide) rfl (fun ls hln => ?_)
        replace hl := hln
        clear hln
        refine lv_iconst (v := 0) hx hb dX6_year_53 (by decide) ?_
        refine lv_istore (lv' := [(6, .int 0), (5, .int 0), (4, .int p0), (0, .ref (ad 0)), (1, .int p0), (2, .int p1), (3, .int p2)]) hx hb dX6_year_54 hl (by decide) rfl (fun ls hln => ?_)
        replace hl := hln
        clear hln
        refine lv_iconst (v := 0) hx hb dX6_year_56 (by decide) ?_
        refine lv_istore (lv' := [(7, .int 0), (6, .int 0), (5, .int 0), (4, .int p0), (0, .ref (ad 0)), (1, .int p0), (2, .int p1), (3, .int p2)]) hx hb dX6_year_57 hl (by decide) rfl (fun ls hln => ?_)
        replace hl := hln
        clear hln
        refine lv_iconst (v := 1) hx hb dX6_year_59 (by decide) ?_
        refine lv_istore (lv' := [(8, .int 1), (7, .int 0), (6, .int 0), (5, .int 0), (4, .int p0), (0, .ref (ad 0)), (1, .int p0), (2, .int p1), (3, .int p2)]) hx hb dX6_year_60 hl (by decide) rfl (fun ls hln => ?_)
        replace hl := hln
        clear hln
        exact L62 _ _ _ _ _ _ _ _ _ h _ _ hW _ (lv_sub hl [5, 7, 8, 4, 3, 2, 1, 0] rfl)
      · replace h := tp cq h
        refine lv_bipush (v := (-2)) hx hb dX6_year_30 (by decide) ?_
        exact r_iretW hC hr hlocks h hW dX6_year_32
