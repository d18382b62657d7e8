set_option maxHeartbeats 4000000 in
set_option maxRecDepth 100000 in
theorem c_X6_order (l : Launch) (D : va_G) (cy : ClassId × ClassId) (ad : Nat → Nat) (A : Nat → Prop) (N : Nat) (σ : Hp) (r : Int32) (σ' : Hp) (h : t_X6_order N σ = some (r, σ')) : Ci l yX6_order us_X6_order ({ frames := 4, cells := 0, slots := 0, locals := 87 } : Room) D cy 55 shX ad A [.ref (ad 0)] σ r σ' := by
  unfold t_X6_order at h
  refine Met.ofW (cc := cX6_order) (maxL := 2) (ret := (some .int)) (by decide) rfl ?_
  intro p e s m args below meth c s₁ B hml hv
  obtain ⟨rfl, hP, hK, hD, hA, hN⟩ := hv
  have hx := B.exec
  have hb := B.bytes
  have hr := B.returns
  have hlocks := B.notSynchronized
  have hts : ∀ w ∈ wsU, w.before _ s = true := fun w h => atoms_spec (ws := us_X6_order) B.pre w (List.mem_cons_of_mem _ h)
  have hown : s.vm.findClass RX6 = some m.cls := findClass_of_methodNamed B.named
  have hC : Cx p m c cX6_order 2 s _ wsU RX6 D cy := ⟨⟨hx, hb, hml, hown, hts⟩, hK, hN⟩
  have hW : Wd D cy 55 shX ad A s.heap σ s.heap [] := ⟨hP, hD, va_S.rf, hA⟩
  have hl := lv_entry ([.ref (ad 0)]) (n := 2) (Nat.le_of_ble_eq_true rfl)
  rw [lg_entry_eq]
  generalize (lg_sl ([.ref (ad 0)]) ++ List.replicate (2 - (lg_sl ([.ref (ad 0)])).length) Slot.unset).toArray = ls at hl ⊢
  have hl : lv_has ls 2 [(0, .ref (ad 0))] := hl
  have L43 : ∀ (f : Nat) (v1 : Int32) (σ : Hp), t_X6_order_43 N f v1 σ = some (r, σ') → ∀ (H : Heap) (locs : List Loc), Wd D cy 55 shX ad A s.heap σ H locs → ∀ ls : Array Slot, lv_has ls 2 [(0, .ref (ad 0)), (1, .int v1)] → Gi p l e us_X6_order ({ frames := 4, cells := 0, slots := 0, locals := 87 } : Room) s m [.ref (ad 0)] below meth c D cy 55 shX ad A r σ' H locs (F0 m 43 ls []) := by
    intro f
    unfold t_X6_order_43
    refine loopG_ind (fun (T : Int32 → Hp → Option (Int32 × Hp)) => ∀ (v1 : Int32) (σ : Hp), T v1 σ = some (r, σ') → ∀ (H : Heap) (locs : List Loc), Wd D cy 55 shX ad A s.heap σ H locs → ∀ ls : Array Slot, lv_has ls 2 [(0, .ref (ad 0)), (1, .int v1)] → Gi p l e us_X6_order ({ frames := 4, cells := 0, slots := 0, locals := 87 } : Room) s m [.ref (ad 0)] below meth c D cy 55 shX ad A r σ' H locs (F0 m 43 ls [])) ?_ ?_ f
    · intro v1 σ h; exact absurd h (by simp)
    · intro k43 ih43
      intro v1 σ h H locs hW ls hl
      refine lv_iload_n hx hb dX6_order_43 rfl (lv_at hl 1 rfl) ?_
      refine lv_aload_n hx hb dX6_order_44 rfl (lv_at hl 0 rfl) ?_
      refine r_getr hC hW 0 (Nat.le_of_ble_eq_true rfl) rfl rfl rfl (by decide) inUX6 (hts _ wd_175) rfl dX6_order_45 ?_
      refine r_getrN hC hW 0 (Nat.le_of_ble_eq_true rfl) rfl rfl rfl (by decide) inUX4 (hC.2.2.use nf_RX6_50 rfl) rfl dX6_order_48 ?_
      refine r_getiN hC hW 0 (Nat.le_of_ble_eq_true rfl) rfl rfl rfl (by decide) inUX0 (hC.2.2.use nf_RX6_61 rfl) rfl dX6_order_51 ?_
      refine lv_icmp_ge (tgt := 88) hx hb dX6_order_54 (by decide) (fun cq => ?_) (fun cq => ?_)
      · replace h := tp cq h
        refine lv_aload_n hx hb dX6_order_88 rfl (lv_at hl 0 rfl) ?_
        refine r_getr hC hW 3 (Nat.le_of_ble_eq_true rfl) rfl rfl rfl (by decide) inUX6 (hts _ wd_182) rfl dX6_order_89 ?_
        refine lv_iconst (v := 0) hx hb dX6_order_92 (by decide) ?_
        refine r_putN hC hW 0 (Nat.le_of_ble_eq_true rfl) rfl rfl rfl (by decide) inUX3 tyX3 tyX3_ok nmX3 (hC.2.2.use nf_RX6_105 rfl) rfl rfl ⟨rfl, rfl⟩ dX6_order_93 (fun σ1 eσ1 H locs hWn => ?_)
        replace h := bn eσ1 h
        replace hW := hWn
        clear hWn eσ1
        refine lv_iconst (v := 1) hx hb dX6_order_96 (by decide) ?_
        exact r_iretW hC hr hlocks h hW dX6_order_97
      · replace h := tn cq h
        refine lv_aload_n hx hb dX6_order_57 rfl (lv_at hl 0 rfl) ?_
        refine r_getr hC hW 0 (Nat.le_of_ble_eq_true rfl) rfl rfl rfl (by decide) inUX6 (hts _ wd_175) rfl dX6_order_58 ?_
        refine r_getrN hC hW 0 (Nat.le_of_ble_eq_true rfl) rfl rfl rfl (by decide) inUX4 (hC.2.2.use nf_RX6_50 rfl) rfl dX6_order_61 ?_
        refine r_getrN hC hW 2 (Nat.le_of_ble_eq_true rfl) rfl rfl rfl (by decide) inUX0 (hC.2.2.use nf_RX6_120 rfl) rfl dX6_order_64 ?_
        refine lv_iload_n hx hb dX6_order_67 rfl (lv_at hl 1 rfl) ?_
        refine lv_aload_n hx hb dX6_order_68 rfl (lv_at hl 0 rfl) ?_
        refine r_getr hC hW 3 (Nat.le_of_ble_eq_true rfl) rfl rfl rfl (by decide) inUX6 (hts _ wd_182) rfl dX6_order_69 ?_
        refine lv_iload_n hx hb dX6_order_72 rfl (lv_at hl 1 rfl) ?_
        replace h := bd h
        obtain ⟨r2, hc, h⟩ := h
        refine r_calli hW (va_runVN (As := [.int v1]) (rest := [.int v1, .ref (ad 3)]) hC.1 (c_X3_sign l D cy ad A _ _ _ hc) ⟨va_cnB 1 hts (gdN wd_103) rfl rfl rfl (NL.at hC.2.2 nw_RX6_124 rfl) (hts _ wd_104) (by decide +kernel) ⟨Nat.le_of_ble_eq_true rfl, Nat.le_of_ble_eq_true rfl⟩, hts _ wd_105, hts _ wd_106⟩ (r_preV hC hW (Nat.le_of_ble_eq_true rfl) rfl rfl) rfl rfl hl.1 rfl (lv_room (Nat.le_of_ble_eq_true rfl)) dX6_order_73 ⟨Nat.zero_le _, Nat.zero_le _⟩) (fun H locs hWn => ?_)
        replace hW := hWn
        clear hWn hc
        refine lv_bipush (v := 48) hx hb dX6_order_76 (by decide) ?_
        refine lv_isub hx hb dX6_order_78 ?_
        replace h := bd h
        obtain ⟨σ3, hc, h⟩ := h
        refine r_callv hW (va_runS (As := [.ref (ad 3), .int v1, .int (r2 - 48)]) (rest := []) hC.1 (c_X6_put l D cy ad A 3 7 ⟨Nat.le_of_ble_eq_true rfl, rfl⟩ _ _ _ _ hc) (va_cwS 3 hts (gdS wd_258 wd_38 wd_5 wd_37) rfl rfl rfl (by decide +kernel) ⟨Nat.le_of_ble_eq_true rfl, Nat.le_of_ble_eq_true rfl⟩) (r_preS hC hW) rfl rfl hl.1 rfl (lv_room (Nat.le_of_ble_eq_true rfl)) dX6_order_79 ⟨Nat.zero_le _, Nat.zero_le _⟩) (fun H locs hWn => ?_)
        replace hW := hWn
        clear hWn hc
        replace h := bx h
        obtain ⟨x4, ex4, h⟩ := h
        refine lv_iinc (v := x4) (lv' := [(1, .int x4), (0, .ref (ad 0))]) hx hb dX6_order_82 hl (k := 1) rfl (by rw [ex4]; rfl) (by decide) rfl (fun ls hln => ?_)
        replace hl := hln
        clear hln ex4
        refine lv_goto (tgt := 43) hx hb dX6_order_85 (by decide) ?_
        exact ih43 _ _ h _ _ hW _ (lv_sub hl [1, 0] rfl)
  refine lv_aload_n hx hb dX6_order_0 rfl (lv_at hl 0 rfl) ?_
  refine r_getr hC hW 3 (Nat.le_of_ble_eq_true rfl) rfl rfl rfl (by decide) inUX6 (hts _ wd_182) rfl dX6_order_1 ?_
  refine lv_aload_n hx hb dX6_order_4 rfl (lv_at hl 0 rfl) ?_
  refine r_getr hC hW 0 (Nat.le_of_ble_eq_true rfl) rfl rfl rfl (by decide) inUX6 (hts _ wd_175) rfl dX6_order_5 ?_
  refine r_getrN hC hW 0 (Nat.le_of_ble_eq_true rfl) rfl rfl rfl (by decide) inUX4 (hC.2.2.use nf_RX6_50 rfl) rfl dX6_order_8 ?_
  refine r_getiN hC hW 0 (Nat.le_of_ble_eq_true rfl) rfl rfl rfl (by decide) inUX0 (hC.2.2.use nf_RX6_61 rfl) rfl dX6_order_11 ?_
  replace h := bd h
  obtain ⟨r5, hc, h⟩ := h
  refine r_calli hW (va_runVN (As := [.int (σ 2 0)]) (rest := []) hC.1 (c_X3_orderFault l D cy ad A N _ _ _ hc) ⟨va_cnB 1 hts (gdN wd_223) rfl rfl rfl (NL.at hC.2.2 nw_RX6_109 rfl) (hts _ wd_104) (by decide +kernel) ⟨Nat.le_of_ble_eq_true rfl, Nat.le_of_ble_eq_true rfl⟩, hts _ wd_224, hts _ wd_225⟩ (r_preV hC hW (Nat.le_of_ble_eq_true rfl) rfl rfl) rfl rfl hl.1 rfl (lv_room (Nat.le_of_ble_eq_true rfl)) dX6_order_14 ⟨Nat.zero_le _, Nat.zero_le _⟩) (fun H locs hWn => ?_)
  replace hW := hWn
  clear hWn hc
  refine lv_bipush (v := (-6)) hx hb dX6_order_17 (by decide) ?_
  refine lv_icmp_eq (tgt := 25) hx hb dX6_order_19 (by decide) (fun cq => ?_) (fun cq => ?_)
  · replace h := tp cq h
    refine lv_aload_n hx hb dX6_order_25 rfl (lv_at hl 0 rfl) ?_
    refine r_getr hC hW 0 (Nat.le_of_ble_eq_true rfl) rfl rfl rfl (by decide) inUX6 (hts _ wd_175) rfl dX6_order_26 ?_
    refine r_getrN hC hW 0 (Nat.le_of_ble_eq_true rfl) rfl rfl rfl (by decide) inUX4 (hC.2.2.use nf_RX6_50 rfl) rfl dX6_order_29 ?_
    replace h := bd h
    obtain ⟨r6, hc, h⟩ := h
    refine r_calli hW (va_runVN (As := []) (rest := []) hC.1 (c_X0_areAllWhole l D cy ad A N 2 (c_coop 2 rfl) _ _ hc) ⟨va_cnB 0 hts (gdN wd_192) rfl rfl rfl (NL.at hC.2.2 nw_RX6_116 rfl) (hts _ wd_12) (by decide +kernel) ⟨Nat.le_of_ble_eq_true rfl, Nat.le_of_ble_eq_true rfl⟩, hts _ wd_193, hts _ wd_194⟩ (r_preV hC hW (Nat.le_of_ble_eq_true rfl) rfl rfl) rfl rfl hl.1 rfl (lv_room (Nat.le_of_ble_eq_true rfl)) dX6_order_32 ⟨Nat.zero_le _, Nat.zero_le _⟩) (fun H locs hWn => ?_)
    replace hW := hWn
    clear hWn hc
    refine lv_if_ne (tgt := 41) hx hb dX6_order_35 (by decide) (fun cq => ?_) (fun cq => ?_)
    · replace h := tn cq h
      refine lv_iconst (v := 0) hx hb dX6_order_41 (by decide) ?_
      refine lv_istore_n (lv' := [(1, .int 0), (0, .ref (ad 0))]) hx hb dX6_order_42 rfl hl (by decide) rfl (fun ls hln => ?_)
      replace hl := hln
      clear hln
      exact L43 _ _ _ h _ _ hW _ (lv_sub hl [1, 0] rfl)
    · replace h := tp cq h
      refine lv_bipush (v := (-3)) hx hb dX6_order_38 (by decide) ?_
      exact r_iretW hC hr hlocks h hW dX6_order_40
  · replace h := tn cq h
    refine lv_bipush (v := (-5)) hx hb dX6_order_22 (by decide) ?_
    exact r_iretW hC hr hlocks h hW dX6_order_24
set_option maxHeartbeats 4000000 in
set_option maxRecDepth 100000 in
theorem c_X6_places (l : Launch) (D : va_G) (cy : ClassId × ClassId) (ad : Nat → Nat) (A : Nat → Prop) (N : Nat) (p0 : Int32) (σ : Hp) (r : Int32) (σ' : Hp) (h : t_X6_places N p0 σ = some (r, σ')) : Ci l yX6_places us_X6_places ({ frames := 14, cells := 0, slots := 0, locals := 358 } : Room) D cy 55 shX ad A [.ref (ad 0), .int p0] σ r σ' := by
  unfold t_X6_places at h
  refine Met.ofW (cc := cX6_places) (maxL := 3) (ret := (some .int)) (by decide) rfl ?_
  intro p e s m args below meth c s₁ B hml hv
  obtain ⟨rfl, hP, hK, hD, hA, hN⟩ := hv
  have hx := B.exec
  have hb := B.bytes
  have hr := B.returns
  have hlocks := B.notSynchronized
  have hts : ∀ w ∈ wsU, w.before _ s = true := fun w h => atoms_spec (ws := us_X6_places) B.pre w (List.mem_cons_of_mem _ h)
  have hown : s.vm.findClass RX6 = some m.cls := findClass_of_methodNamed B.named
  have hC : Cx p m c cX6_places 3 s _ wsU RX6 D cy := ⟨⟨hx, hb, hml, hown, hts⟩, hK, hN⟩
  have hW : Wd D cy 55 shX ad A s.heap σ s.heap [] := ⟨hP, hD, va_S.rf, hA⟩
  have hl := lv_entry ([.ref (ad 0), .int p0]) (n := 3) (Nat.le_of_ble_eq_true rfl)
  rw [lg_entry_eq]
  generalize (lg_sl ([.ref (ad 0), .int p0]) ++ List.replicate (3 - (lg_sl ([.ref (ad 0), .int p0])).length) Slot.unset).toArray = ls at hl ⊢
  have hl : lv_has ls 3 [(0, .ref (ad 0)), (1, .int p0)] := hl
  refine lv_aload_n hx hb dX6_places_0 rfl (lv_at hl 0 rfl) ?_
  refine r_getr hC hW 0 (Nat.le_of_ble_eq_true rfl) rfl rfl rfl (by decide) inUX6 (hts _ wd_175) rfl dX6_places_1 ?_
  refine r_getrN hC hW 0 (Nat.le_of_ble_eq_true rfl) rfl rfl rfl (by decide) inUX4 (hC.2.2.use nf_RX6_50 rfl) rfl dX6_places_4 ?_
  refine lv_iload_n hx hb dX6_places_7 rfl (lv_at hl 1 rfl) ?_
  replace h := bd h
  obtain ⟨r1, hc, h⟩ := h
  refine r_calli hW (va_runVN (As := [.int p0]) (rest := []) hC.1 (c_X0_has l D cy ad A 2 (c_coop 2 rfl) _ _ _ hc) ⟨va_cnB 1 hts (gdN wd_202) rfl rfl rfl (NL.at hC.2.2 nw_RX6_77 rfl) (hts _ wd_12) (by decide +kernel) ⟨Nat.le_of_ble_eq_true rfl, Nat.le_of_ble_eq_true rfl⟩, hts _ wd_203, hts _ wd_204⟩ (r_preV hC hW (Nat.le_of_ble_eq_true rfl) rfl rfl) rfl rfl hl.1 rfl (lv_room (Nat.le_of_ble_eq_true rfl)) dX6_places_8 ⟨Nat.zero_le _, Nat.zero_le _⟩) (fun H locs hWn => ?_)
  replace hW := hWn
  clear hWn hc
  refine lv_if_ne (tgt := 16) hx hb dX6_places_11 (by decide) (fun cq => ?_) (fun cq => ?_)
  · replace h := tn cq h
    refine lv_aload_n hx hb dX6_places_16 rfl (lv_at hl 0 rfl) ?_
    replace h := ob h
    obtain ⟨r2, σ3, hc, h⟩ := h
    refine r_calli hW (va_runV (As := []) (rest := []) hC.1 (c_X6_findFitting l D cy ad A N _ _ _ hc) (cwV 0 hts (gdV wd_199 wd_200 wd_201 wd_5 wd_198) rfl rfl rfl (by decide +kernel) ⟨Nat.le_of_ble_eq_true rfl, Nat.le_of_ble_eq_true rfl⟩) (r_preV hC hW (Nat.le_of_ble_eq_true rfl) rfl rfl) rfl rfl hl.1 rfl (lv_room (Nat.le_of_ble_eq_true rfl)) dX6_places_17 ⟨Nat.zero_le _, Nat.zero_le _⟩) (fun H locs hWn => ?_)
    replace hW := hWn
    clear hWn hc
    refine lv_istore_n (lv' := [(2, .int r2), (0, .ref (ad 0)), (1, .int p0)]) hx hb dX6_places_20 rfl hl (by decide) rfl (fun ls hln => ?_)
    replace hl := hln
    clear hln
    refine lv_iload_n hx hb dX6_places_21 rfl (lv_at hl 0 rfl) ?_
    refine lv_if_eq (tgt := 29) hx hb dX6_places_22 (by decide) (fun cq => ?_) (fun cq => ?_)
    · replace h := tp cq h
      refine lv_aload_n hx hb dX6_places_29 rfl (lv_at hl 1 rfl) ?_
      refine r_getr hC hW 5 (Nat.le_of_ble_eq_true rfl) rfl rfl rfl (by decide) inUX6 (hts _ wd_171) rfl dX6_places_30 ?_
      refine lv_iload_n hx hb dX6_places_33 rfl (lv_at hl 2 rfl) ?_
      replace h := bd h
      obtain ⟨r4, hc, h⟩ := h
      refine r_calli hW (va_runVN (As := [.int p0]) (rest := []) hC.1 (c_X1_placesOf l D cy ad A N _ _ _ hc) ⟨va_cnB 1 hts (gdN wd_259) rfl rfl rfl (NL.at hC.2.2 nw_RX6_185 rfl) (hts _ wd_73) (by decide +kernel) ⟨Nat.le_of_ble_eq_true rfl, Nat.le_of_ble_eq_true rfl⟩, hts _ wd_260, hts _ wd_261⟩ (r_preV hC hW (Nat.le_of_ble_eq_true rfl) rfl rfl) rfl rfl hl.1 rfl (lv_room (Nat.le_of_ble_eq_true rfl)) dX6_places_34 ⟨Nat.zero_le _, Nat.zero_le _⟩) (fun H locs hWn => ?_)
      replace hW := hWn
      clear hWn hc
      exact r_iretW hC hr hlocks h hW dX6_places_37
    · replace h := tn cq h
      refine lv_iload_n hx hb dX6_places_25 rfl (lv_at hl 0 rfl) ?_
      refine lv_goto (tgt := 37) hx hb dX6_places_26 (by decide) ?_
      exact r_iretW hC hr hlocks h hW dX6_places_37
  · replace h := tp cq h
    refine lv_iconst (v := (-1)) hx hb dX6_places_14 (by decide) ?_
    exact r_iretW hC hr hlocks h hW dX6_places_15
set_option maxHeartbeats 4000000 in
set_option maxRecDepth 100000 in
theorem c_X6_restore (l : Launch) (D : va_G) (cy : ClassId × ClassId) (ad : Nat → Nat) (A : Nat → Prop) (N : Nat) (p0 : Int32) (σ : Hp) (r : Int32) (σ' : Hp) (h : t_X6_restore N p0 σ = some (r, σ')) : Ci l yX6_restore us_X6_restore ({ frames := 3, cells := 0, slots := 0, locals := 64 } : Room) D cy 55 shX ad A [.ref (ad 0), .int p0] σ r σ' := by
  unfold t_X6_restore at h
  refine Met.ofW (cc := cX6_restore) (maxL := 3) (ret := (some .int)) (by decide) rfl ?_
  intro p e s m args below meth c s₁ B hml hv
  obtain ⟨rfl, hP, hK, hD, hA, hN⟩ := hv
  have hx := B.exec
  have hb := B.bytes
  have hr := B.returns
  have hlocks := B.notSynchronized
  have hts : ∀ w ∈ wsU, w.before _ s = true := fun w h => atoms_spec (ws := us_X6_restore) B.pre w (List.mem_cons_of_mem _ h)
  have hown : s.vm.findClass RX6 = some m.cls := findClass_of_methodNamed B.named
  have hC : Cx p m c cX6_restore 3 s _ wsU RX6 D cy := ⟨⟨hx, hb, hml, hown, hts⟩, hK, hN⟩
  have hW : Wd D cy 55 shX ad A s.heap σ s.heap [] := ⟨hP, hD, va_S.rf, hA⟩
  have hl := lv_entry ([.ref (ad 0), .int p0]) (n := 3) (Nat.le_of_ble_eq_true rfl)
  rw [lg_entry_eq]
  generalize (lg_sl ([.ref (ad 0), .int p0]) ++ List.replicate (3 - (lg_sl ([.ref (ad 0), .int p0])).length) Slot.unset).toArray = ls at hl ⊢
  have hl : lv_has ls 3 [(0, .ref (ad 0)), (1, .int p0)] := hl
  have J27 : ∀ (qs0 : Nat) (hqs0 : isScene qs0) (σ : Hp), t_X6_restore_27 N qs0 σ = some (r, σ') → ∀ (H : Heap) (locs : List Loc), Wd D cy 55 shX ad A s.heap σ H locs → ∀ ls : Array Slot, lv_has ls 3 [(0, .ref (ad 0))] → Gi p l e us_X6_restore ({ frames := 3, cells := 0, slots := 0, locals := 64 } : Room) s m [.ref (ad 0), .int p0] below meth c D cy 55 shX ad A r σ' H locs (F0 m 27 ls [.ref (ad qs0)]) := by
    intro qs0 hqs0 σ h H locs hW ls hl
    unfold t_X6_restore_27 at h
    refine lv_astore_n (lv' := [(2, .ref (ad qs0)), (0, .ref (ad 0))]) hx hb dX6_restore_27 rfl hl (by decide) rfl (fun ls hln => ?_)
    replace hl := hln
    clear hln
    refine lv_aload_n hx hb dX6_restore_28 rfl (lv_at hl 0 rfl) ?_
    refine r_getiN hC hW 2 (isScene_b hqs0 0 (Nat.zero_le _)) hqs0.2.1 rfl rfl (by decide) inUX4 (hC.2.2.use nf_RX6_253 rfl) rfl dX6_restore_29 ?_
    refine lv_if_ne (tgt := 38) hx hb dX6_restore_32 (by decide) (fun cq => ?_) (fun cq => ?_)
    · replace h := tn cq h
      refine lv_aload_n hx hb dX6_restore_38 rfl (lv_at hl 1 rfl) ?_
      refine r_getr hC hW 0 (Nat.le_of_ble_eq_true rfl) rfl rfl rfl (by decide) inUX6 (hts _ wd_175) rfl dX6_restore_39 ?_
      refine lv_aload_n hx hb dX6_restore_42 rfl (lv_at hl 0 rfl) ?_
      replace h := bd h
      obtain ⟨σ1, hc, h⟩ := h
      refine r_callv hW (va_runVN (As := [.ref (ad qs0)]) (rest := []) hC.1 (c_X4_copyFrom l D cy ad A N 1 (c_scene 1 rfl) qs0 hqs0 _ _ hc) ⟨va_cnB 1 hts (gdN wd_244) rfl rfl rfl (NL.at hC.2.2 nw_RX6_250 rfl) (hts _ wd_245) (by decide +kernel) ⟨Nat.le_of_ble_eq_true rfl, Nat.le_of_ble_eq_true rfl⟩, hts _ wd_246, hts _ wd_247⟩ (r_preV hC hW (Nat.le_of_ble_eq_true rfl) rfl rfl) rfl rfl hl.1 rfl (lv_room (Nat.le_of_ble_eq_true rfl)) dX6_restore_43 ⟨Nat.zero_le _, Nat.zero_le _⟩) (fun H locs hWn => ?_)
      replace hW := hWn
      clear hWn hc
      refine lv_iconst (v := 1) hx hb dX6_restore_46 (by decide) ?_
      exact r_iretW hC hr hlocks h hW dX6_restore_47
    · replace h := tp cq h
      refine lv_bipush (v := (-3)) hx hb dX6_restore_35 (by decide) ?_
      exact r_iretW hC hr hlocks h hW dX6_restore_37
  refine lv_iload_n hx hb dX6_restore_0 rfl (lv_at hl 1 rfl) ?_
  refine lv_iconst (v := 0) hx hb dX6_restore_1 (by decide) ?_
  refine lv_iconst (v := 1) hx hb dX6_restore_2 (by decide) ?_
  replace h := bd h
  obtain ⟨r2, hc, h⟩ := h
  refine r_calli hW (va_runS (As := [.int p0, .int 0, .int 1]) (rest := []) hC.1 (c_X6_isWithin l D cy ad A _ _ _ _ _ hc) (va_cwS 3 hts (gdS wd_101 wd_102 wd_5 wd_100) rfl rfl rfl (by decide +kernel) ⟨Nat.le_of_ble_eq_true rfl, Nat.le_of_ble_eq_true rfl⟩) (r_preS hC hW) rfl rfl hl.1 rfl (lv_room (Nat.le_of_ble_eq_true rfl)) dX6_restore_3 ⟨Nat.zero_le _, Nat.zero_le _⟩) (fun H locs hWn => ?_)
  replace hW := hWn
  clear hWn hc
  refine lv_if_ne (tgt := 12) hx hb dX6_restore_6 (by decide) (fun cq => ?_) (fun cq => ?_)
  · replace h := tn cq h
    refine lv_iload_n hx hb dX6_restore_12 rfl (lv_at hl 1 rfl) ?_
    refine lv_if_ne (tgt := 23) hx hb dX6_restore_13 (by decide) (fun cq => ?_) (fun cq => ?_)
    · replace h := tn cq h
      refine lv_aload_n hx hb dX6_restore_23 rfl (lv_at hl 0 rfl) ?_
      refine r_getr hC hW 2 (Nat.le_of_ble_eq_true rfl) rfl rfl rfl (by decide) inUX6 (hts _ wd_248) rfl dX6_restore_24 ?_
      exact J27 _ (c_scene 21 rfl) _ h _ _ hW _ (lv_sub hl [0] rfl)
    · replace h := tp cq h
      refine lv_aload_n hx hb dX6_restore_16 rfl (lv_at hl 0 rfl) ?_
      refine r_getr hC hW 1 (Nat.le_of_ble_eq_true rfl) rfl rfl rfl (by decide) inUX6 (hts _ wd_249) rfl dX6_restore_17 ?_
      refine lv_goto (tgt := 27) hx hb dX6_restore_20 (by decide) ?_
      exact J27 _ (c_scene 11 rfl) _ h _ _ hW _ (lv_sub hl [0] rfl)
  · replace h := tp cq h
    refine lv_bipush (v := (-2)) hx hb dX6_restore_9 (by decide) ?_
    exact r_iretW hC hr hlocks h hW dX6_restore_11
set_option maxHeartbeats 4000000 in
set_option maxRecDepth 100000 in
theorem c_X6_rests (l : Launch) (D : va_G) (cy : ClassId × ClassId) (ad : Nat → Nat) (A : Nat → Prop) (N : Nat) (p0 : Int32) (p1 : Int32) (σ : Hp) (r : Int32) (h : t_X6_rests N p0 p1 σ = some r) : Ci l yX6_rests us_X6_rests ({ frames := 5, cells := 0, slots := 0, locals := 118 } : Room) D cy 55 shX ad A [.ref (ad 0), .int p0, .int p1] σ r σ := by
  unfold t_X6_rests at h
  refine Met.ofW (cc := cX6_rests) (maxL := 6) (ret := (some .int)) (by decide) rfl ?_
  intro p e s m args below meth c s₁ B hml hv
  obtain ⟨rfl, hP, hK, hD, hA, hN⟩ := hv
  have hx := B.exec
  have hb := B.bytes
  have hr := B.returns
  have hlocks := B.notSynchronized
  have hts : ∀ w ∈ wsU, w.before _ s = true := fun w h => atoms_spec (ws := us_X6_rests) B.pre w (List.mem_cons_of_mem _ h)
  have hown : s.vm.findClass RX6 = some m.cls := findClass_of_methodNamed B.named
  have hC : Cx p m c cX6_rests 6 s _ wsU RX6 D cy := ⟨⟨hx, hb, hml, hown, hts⟩, hK, hN⟩
  have hW : Wd D cy 55 shX ad A s.heap σ s.heap [] := ⟨hP, hD, va_S.rf, hA⟩
  have hl := lv_entry ([.ref (ad 0), .int p0, .int p1]) (n := 6) (Nat.le_of_ble_eq_true rfl)
  rw [lg_entry_eq]
  generalize (lg_sl ([.ref (ad 0), .int p0, .int p1]) ++ List.replicate (6 - (lg_sl ([.ref (ad 0), .int p0, .int p1])).length) Slot.unset).toArray = ls at hl ⊢
  have hl : lv_has ls 6 [(0, .ref (ad 0)), (1, .int p0), (2, .int p1)] := hl
  have L30 : ∀ (f : Nat) (v1 : Int32) (v2 : Int32) (v3 : Int32) (v4 : Int32) (v5 : Int32), t_X6_rests_30 N f v1 v2 v3 v4 v5 σ = some r → ∀ (H : Heap) (locs : List Loc), Wd D cy 55 shX ad A s.heap σ H locs → ∀ ls : Array Slot, lv_has ls 6 [(0, .ref (ad 0)), (1, .int v1), (2, .int v2), (3, .int v3), (4, .int v4), (5, .int v5)] → Gi p l e us_X6_rests ({ frames := 5, cells := 0, slots := 0, locals := 118 } : Room) s m [.ref (ad 0), .int p0, .int p1] below meth c D cy 55 shX ad A r σ H locs (F0 m 30 ls []) := by
    intro f
    unfold t_X6_rests_30
    refine loopG_ind (fun (T : Int32 → Int32 → Int32 → Int32 → Int32 → Hp → Option Int32) => ∀ (v1 : Int32) (v2 : Int32) (v3 : Int32) (v4 : Int32) (v5 : Int32), T v1 v2 v3 v4 v5 σ = some r → ∀ (H : Heap) (locs : List Loc), Wd D cy 55 shX ad A s.heap σ H locs → ∀ ls : Array Slot, lv_has ls 6 [(0, .ref (ad 0)), (1, .int v1), (2, .int v2), (3, .int v3), (4, .int v4), (5, .int v5)] → Gi p l e us_X6_rests ({ frames := 5, cells := 0, slots := 0, locals := 118 } : Room) s m [.ref (ad 0), .int p0, .int p1] below meth c D cy 55 shX ad A r σ H locs (F0 m 30 ls [])) ?_ ?_ f
    · intro v1 v2 v3 v4 v5 h; exact absurd h (by simp)
    · intro k30 ih30
      have J72 : ∀ (v1 : Int32) (v2 : Int32) (v3 : Int32) (v4 : Int32) (v5 : Int32), t_X6_rests_72 N k30 v1 v2 v3 v4 v5 σ = some r → ∀ (H : Heap) (locs : List Loc), Wd D cy 55 shX ad A s.heap σ H locs → ∀ ls : Array Slot, lv_has ls 6 [(0, .ref (ad 0)), (1, .int v1), (2, .int v2), (3, .int v3), (4, .int v4), (5, .int v5)] → Gi p l e us_X6_rests ({ frames := 5, cells := 0, slots := 0, locals := 118 } : Room) s m [.ref (ad 0), .int p0, .int p1] below meth c D cy 55 shX ad A r σ H locs (F0 m 72 ls []) := by
        intro v1 v2 v3 v4 v5 h H locs hW ls hl
        unfold t_X6_rests_72 at h
        replace h := bx h
        obtain ⟨x1, ex1, h⟩ := h
        refine lv_iinc (v := x1) (lv' := [(5, .int x1), (0, .ref (ad 0)), (1, .int v1), (2, .int v2), (3, .int v3), (4, .int v4)]) hx hb dX6_rests_72 hl (k := 5) rfl (by rw [ex1]; rfl) (by decide) rfl (fun ls hln => ?_)
        replace hl := hln
        clear hln ex1
        refine lv_goto (tgt := 30) hx hb dX6_rests_75 (by decide) ?_
        exact ih30 _ _ _ _ _ h _ _ hW _ (lv_sub hl [1, 2, 3, 4, 5, 0] rfl)
      intro v1 v2 v3 v4 v5 h H locs hW ls hl
      refine lv_iload hx hb dX6_rests_30 (lv_at hl 5 rfl) ?_
      refine lv_bipush (v := 64) hx hb dX6_rests_32 (by decide) ?_
      refine lv_icmp_ge (tgt := 78) hx hb dX6_rests_34 (by decide) (fun cq => ?_) (fun cq => ?_)
      · replace h := tp cq h
        refine lv_iload_n hx hb dX6_rests_78 rfl (lv_at hl 2 rfl) ?_
        refine lv_iconst (v := (-1)) hx hb dX6_rests_79 (by decide) ?_
        refine lv_icmp_ne (tgt := 88) hx hb dX6_rests_80 (by decide) (fun cq => ?_) (fun cq => ?_)
        · replace h := tn cq h
          refine lv_bipush (v := (-6)) hx hb dX6_rests_88 (by decide) ?_
          exact r_iretP hC hr hlocks h hW dX6_rests_90
        · replace h := tp cq h
          refine lv_iload hx hb dX6_rests_83 (lv_at hl 4 rfl) ?_
          refine lv_goto (tgt := 90) hx hb dX6_rests_85 (by decide) ?_
          exact r_iretP hC hr hlocks h hW dX6_rests_90
      · replace h := tn cq h
        refine lv_iload hx hb dX6_rests_37 (lv_at hl 5 rfl) ?_
        refine lv_iload_n hx hb dX6_rests_39 rfl (lv_at hl 3 rfl) ?_
        refine lv_iconst (v := (-1)) hx hb dX6_rests_40 (by decide) ?_
        refine lv_ixor hx hb dX6_rests_41 ?_
        refine lv_iand hx hb dX6_rests_42 ?_
        refine lv_if_ne (tgt := 72) hx hb dX6_rests_43 (by decide) (fun cq => ?_) (fun cq => ?_)
        · replace h := tn cq h
          exact J72 _ _ _ _ _ h _ _ hW _ (lv_sub hl [0, 1, 2, 3, 4, 5] rfl)
        · replace h := tp cq h
          refine lv_aload_n hx hb dX6_rests_46 rfl (lv_at hl 0 rfl) ?_
          refine lv_iload hx hb dX6_rests_47 (lv_at hl 5 rfl) ?_
          refine lv_iload_n hx hb dX6_rests_49 rfl (lv_at hl 3 rfl) ?_
          refine lv_iload_n hx hb dX6_rests_50 rfl (lv_at hl 1 rfl) ?_
          replace h := bd h
          obtain ⟨r2, hc, h⟩ := h
          refine r_calli hW (va_runV (As := [.int v5, .int v3, .int v1]) (rest := []) hC.1 (c_X6_isRest l D cy ad A N _ _ _ _ _ hc) (cwV 3 hts (gdV wd_263 wd_264 wd_265 wd_5 wd_262) rfl rfl rfl (by decide +kernel) ⟨Nat.le_of_ble_eq_true rfl, Nat.le_of_ble_eq_true rfl⟩) (r_preV hC hW (Nat.le_of_ble_eq_true rfl) rfl rfl) rfl rfl hl.1 rfl (lv_room (Nat.le_of_ble_eq_true rfl)) dX6_rests_51 ⟨Nat.zero_le _, Nat.zero_le _⟩) (fun H locs hWn => ?_)
          replace hW := hWn
          clear hWn hc
          refine lv_if_ne (tgt := 60) hx hb dX6_rests_54 (by decide) (fun cq => ?_) (fun cq => ?_)
          · replace h := tn cq h
            refine lv_iload hx hb dX6_rests_60 (lv_at hl 4 rfl) ?_
            refine lv_iload_n hx hb dX6_rests_62 rfl (lv_at hl 2 rfl) ?_
            refine lv_icmp_ne (tgt := 69) hx hb dX6_rests_63 (by decide) (fun cq => ?_) (fun cq => ?_)
            · replace h := tn cq h
              replace h := bx h
              obtain ⟨x3, ex3, h⟩ := h
              refine lv_iinc (v := x3) (lv' := [(4, .int x3), (0, .ref (ad 0)), (1, .int v1), (2, .int v2), (3, .int v3), (5, .int v5)]) hx hb dX6_rests_69 hl (k := 4) rfl (by rw [ex3]; rfl) (by decide) rfl (fun ls hln => ?_)
              replace hl := hln
              clear hln ex3
              exact J72 _ _ _ _ _ h _ _ hW _ (lv_sub hl [1, 2, 3, 4, 0, 5] rfl)
            · replace h := tp cq h
              refine lv_iload hx hb dX6_rests_66 (lv_at hl 5 rfl) ?_
              exact r_iretP hC hr hlocks h hW dX6_rests_68
          · replace h := tp cq h
            refine lv_goto (tgt := 72) hx hb dX6_rests_57 (by decide) ?_
            exact J72 _ _ _ _ _ h _ _ hW _ (lv_sub hl [0, 1, 2, 3, 4, 5] rfl)
  refine lv_iload_n hx hb dX6_rests_0 rfl (lv_at hl 1 rfl) ?_
  refine lv_iconst (v := 0) hx hb dX6_rests_1 (by decide) ?_
  refine lv_bipush (v := 99) hx hb dX6_rests_2 (by decide) ?_
  replace h := bd h
  obtain ⟨r4, hc, h⟩ := h
  refine r_calli hW (va_runS (As := [.int p0, .int 0, .int 99]) (rest := []) hC.1 (c_X6_isWithin l D cy ad A _ _ _ _ _ hc) (va_cwS 3 hts (gdS wd_101 wd_102 wd_5 wd_100) rfl rfl rfl (by decide +kernel) ⟨Nat.le_of_ble_eq_true rfl, Nat.le_of_ble_eq_true rfl⟩) (r_preS hC hW) rfl rfl hl.1 rfl (lv_room (Nat.le_of_ble_eq_true rfl)) dX6_rests_4 ⟨Nat.zero_le _, Nat.zero_le _⟩) (fun H locs hWn => ?_)
  replace hW := hWn
  clear hWn hc
  refine lv_if_ne (tgt := 13) hx hb dX6_rests_7 (by decide) (fun cq => ?_) (fun cq => ?_)
  · replace h := tn cq h
    refine lv_aload_n hx hb dX6_rests_13 rfl (lv_at hl 0 rfl) ?_
    refine r_getr hC hW 0 (Nat.le_of_ble_eq_true rfl) rfl rfl rfl (by decide) inUX6 (hts _ wd_175) rfl dX6_rests_14 ?_
    refine r_getrN hC hW 0 (Nat.le_of_ble_eq_true rfl) rfl rfl rfl (by decide) inUX4 (hC.2.2.use nf_RX6_50 rfl) rfl dX6_rests_17 ?_
    replace h := bd h
    obtain ⟨r5, hc, h⟩ := h
    refine r_calli hW (va_runVN (As := []) (rest := []) hC.1 (c_X0_housesOfWhole l D cy ad A N 2 (c_coop 2 rfl) _ _ hc) ⟨va_cnB 0 hts (gdN wd_266) rfl rfl rfl (NL.at hC.2.2 nw_RX6_213 rfl) (hts _ wd_12) (by decide +kernel) ⟨Nat.le_of_ble_eq_true rfl, Nat.le_of_ble_eq_true rfl⟩, hts _ wd_267, hts _ wd_268⟩ (r_preV hC hW (Nat.le_of_ble_eq_true rfl) rfl rfl) rfl rfl hl.1 rfl (lv_room (Nat.le_of_ble_eq_true rfl)) dX6_rests_20 ⟨Nat.zero_le _, Nat.zero_le _⟩) (fun H locs hWn => ?_)
    replace hW := hWn
    clear hWn hc
    refine lv_istore_n (lv' := [(3, .int r5), (0, .ref (ad 0)), (1, .int p0), (2, .int p1)]) hx hb dX6_rests_23 rfl hl (by decide) rfl (fun ls hln => ?_)
    replace hl := hln
    clear hln
    refine lv_iconst (v := 0) hx hb dX6_rests_24 (by decide) ?_
    refine lv_istore (lv' := [(4, .int 0), (3, .int r5), (0, .ref (ad 0)), (1, .int p0), (2, .int p1)]) hx hb dX6_rests_25 hl (by decide) rfl (fun ls hln => ?_)
    replace hl := hln
    clear hln
    refine lv_iconst (v := 0) hx hb dX6_rests_27 (by decide) ?_
    refine lv_istore (lv' := [(5, .int 0), (4, .int 0), (3, .int r5), (0, .ref (ad 0)), (1, .int p0), (2, .int p1)]) hx hb dX6_rests_28 hl (by decide) rfl (fun ls hln => ?_)
    replace hl := hln
    clear hln
    exact L30 _ _ _ _ _ _ h _ _ hW _ (lv_sub hl [3, 4, 5, 2, 1, 0] rfl)
  · replace h := tp cq h
    refine lv_bipush (v := (-2)) hx hb dX6_rests_10 (by decide) ?_
    exact r_iretP hC hr hlocks h hW dX6_rests_12
set_option maxHeartbeats 4000000 in
set_option maxRecDepth 100000 in
theorem c_X6_say (l : Launch) (D : va_G) (cy : ClassId × ClassId) (ad : Nat → Nat) (A : Nat → Prop) (p0 : Int32) (σ : Hp) (r : Int32) (σ' : Hp) (h : t_X6_say p0 σ = some (r, σ')) : Ci l yX6_say us_X6_say ({ frames := 2, cells := 0, slots := 0, locals := 43 } : Room) D cy 55 shX ad A [.ref (ad 0), .int p0] σ r σ' := by
  unfold t_X6_say at h
  refine Met.ofW (cc := cX6_say) (maxL := 2) (ret := (some .int)) (by decide) rfl ?_
  intro p e s m args below meth c s₁ B hml hv
  obtain ⟨rfl, hP, hK, hD, hA, hN⟩ := hv
  have hx := B.exec
  have hb := B.bytes
  have hr := B.returns
  have hlocks := B.notSynchronized
  have hts : ∀ w ∈ wsU, w.before _ s = true := fun w h => atoms_spec (ws := us_X6_say) B.pre w (List.mem_cons_of_mem _ h)
  have hown : s.vm.findClass RX6 = some m.cls := findClass_of_methodNamed B.named
  have hC : Cx p m c cX6_say 2 s _ wsU RX6 D cy := ⟨⟨hx, hb, hml, hown, hts⟩, hK, hN⟩
  have hW : Wd D cy 55 shX ad A s.heap σ s.heap [] := ⟨hP, hD, va_S.rf, hA⟩
  have hl := lv_entry ([.ref (ad 0), .int p0]) (n := 2) (Nat.le_of_ble_eq_true rfl)
  rw [lg_entry_eq]
  generalize (lg_sl ([.ref (ad 0), .int p0]) ++ List.replicate (2 - (lg_sl ([.ref (ad 0), .int p0])).length) Slot.unset).toArray = ls at hl ⊢
  have hl : lv_has ls 2 [(0, .ref (ad 0)), (1, .int p0)] := hl
  refine lv_iload_n hx hb dX6_say_0 rfl (lv_at hl 1 rfl) ?_
  refine lv_bipush (v := 33) hx hb dX6_say_1 (by decide) ?_
  refine lv_bipush (v := 126) hx hb dX6_say_3 (by decide) ?_
  replace h := bd h
  obtain ⟨r1, hc, h⟩ := h
  refine r_calli hW (va_runS (As := [.int p0, .int 33, .int 126]) (rest := []) hC.1 (c_X6_isWithin l D cy ad A _ _ _ _ _ hc) (va_cwS 3 hts (gdS wd_101 wd_102 wd_5 wd_100) rfl rfl rfl (by decide +kernel) ⟨Nat.le_of_ble_eq_true rfl, Nat.le_of_ble_eq_true rfl⟩) (r_preS hC hW) rfl rfl hl.1 rfl (lv_room (Nat.le_of_ble_eq_true rfl)) dX6_say_5 ⟨Nat.zero_le _, Nat.zero_le _⟩) (fun H locs hWn => ?_)
  replace hW := hWn
  clear hWn hc
  refine lv_if_ne (tgt := 14) hx hb dX6_say_8 (by decide) (fun cq => ?_) (fun cq => ?_)
  · replace h := tn cq h
    refine lv_aload_n hx hb dX6_say_14 rfl (lv_at hl 0 rfl) ?_
    refine r_getr hC hW 3 (Nat.le_of_ble_eq_true rfl) rfl rfl rfl (by decide) inUX6 (hts _ wd_182) rfl dX6_say_15 ?_
    refine r_getiN hC hW 0 (Nat.le_of_ble_eq_true rfl) rfl rfl rfl (by decide) inUX3 (hC.2.2.use nf_RX6_105 rfl) rfl dX6_say_18 ?_
    refine lv_bipush (v := 60) hx hb dX6_say_21 (by decide) ?_
    refine lv_icmp_lt (tgt := 29) hx hb dX6_say_23 (by decide) (fun cq => ?_) (fun cq => ?_)
    · replace h := tp cq h
      refine lv_aload_n hx hb dX6_say_29 rfl (lv_at hl 0 rfl) ?_
      refine r_getr hC hW 3 (Nat.le_of_ble_eq_true rfl) rfl rfl rfl (by decide) inUX6 (hts _ wd_182) rfl dX6_say_30 ?_
      refine lv_iload_n hx hb dX6_say_33 rfl (lv_at hl 1 rfl) ?_
      replace h := bd h
      obtain ⟨σ2, hc, h⟩ := h
      refine r_callv hW (va_runVN (As := [.int p0]) (rest := []) hC.1 (c_X3_add l D cy ad A _ _ _ hc) ⟨va_cnB 1 hts (gdN wd_269) rfl rfl rfl (NL.at hC.2.2 nw_RX6_106 rfl) (hts _ wd_104) (by decide +kernel) ⟨Nat.le_of_ble_eq_true rfl, Nat.le_of_ble_eq_true rfl⟩, hts _ wd_270, hts _ wd_271⟩ (r_preV hC hW (Nat.le_of_ble_eq_true rfl) rfl rfl) rfl rfl hl.1 rfl (lv_room (Nat.le_of_ble_eq_true rfl)) dX6_say_34 ⟨Nat.zero_le _, Nat.zero_le _⟩) (fun H locs hWn => ?_)
      replace hW := hWn
      clear hWn hc
      refine lv_aload_n hx hb dX6_say_37 rfl (lv_at hl 0 rfl) ?_
      refine r_getr hC hW 3 (Nat.le_of_ble_eq_true rfl) rfl rfl rfl (by decide) inUX6 (hts _ wd_182) rfl dX6_say_38 ?_
      refine r_getiN hC hW 0 (Nat.le_of_ble_eq_true rfl) rfl rfl rfl (by decide) inUX3 (hC.2.2.use nf_RX6_105 rfl) rfl dX6_say_41 ?_
      exact r_iretW hC hr hlocks h hW dX6_say_44
    · replace h := tn cq h
      refine lv_bipush (v := (-4)) hx hb dX6_say_26 (by decide) ?_
      exact r_iretW hC hr hlocks h hW dX6_say_28
  · replace h := tp cq h
    refine lv_bipush (v := (-2)) hx hb dX6_say_11 (by decide) ?_
    exact r_iretW hC hr hlocks h hW dX6_say_13
set_option maxHeartbeats 4000000 in
set_option maxRecDepth 100000 in
theorem c_X6_seen (l : Launch) (D : va_G) (cy : ClassId × ClassId) (ad : Nat → Nat) (A : Nat → Prop) (p0 : Int32) (p1 : Int32) (σ : Hp) (r : Int32) (σ' : Hp) (h : t_X6_seen p0 p1 σ = some (r, σ')) : Ci l yX6_seen us_X6_seen ({ frames := 2, cells := 0, slots := 0, locals := 44 } : Room) D cy 55 shX ad A [.ref (ad 0), .int p0, .int p1] σ r σ' := by
  unfold t_X6_seen at h
  refine Met.ofW (cc := cX6_seen) (maxL := 3) (ret := (some .int)) (by decide) rfl ?_
  intro p e s m args below meth c s₁ B hml hv
  obtain ⟨rfl, hP, hK, hD, hA, hN⟩ := hv
  have hx := B.exec
  have hb := B.bytes
  have hr := B.returns
  have hlocks := B.notSynchronized
  have hts : ∀ w ∈ wsU, w.before _ s = true := fun w h => atoms_spec (ws := us_X6_seen) B.pre w (List.mem_cons_of_mem _ h)
  have hown : s.vm.findClass RX6 = some m.cls := findClass_of_methodNamed B.named
  have hC : Cx p m c cX6_seen 3 s _ wsU RX6 D cy := ⟨⟨hx, hb, hml, hown, hts⟩, hK, hN⟩
  have hW : Wd D cy 55 shX ad A s.heap σ s.heap [] := ⟨hP, hD, va_S.rf, hA⟩
  have hl := lv_entry ([.ref (ad 0), .int p0, .int p1]) (n := 3) (Nat.le_of_ble_eq_true rfl)
  rw [lg_entry_eq]
  generalize (lg_sl ([.ref (ad 0), .int p0, .int p1]) ++ List.replicate (3 - (lg_sl ([.ref (ad 0), .int p0, .int p1])).length) Slot.unset).toArray = ls at hl ⊢
  have hl : lv_has ls 3 [(0, .ref (ad 0)), (1, .int p0), (2, .int p1)] := hl
  refine lv_aload_n hx hb dX6_seen_0 rfl (lv_at hl 0 rfl) ?_
  refine r_getr hC hW 0 (Nat.le_of_ble_eq_true rfl) rfl rfl rfl (by decide) inUX6 (hts _ wd_175) rfl dX6_seen_1 ?_
  refine r_getrN hC hW 0 (Nat.le_of_ble_eq_true rfl) rfl rfl rfl (by decide) inUX4 (hC.2.2.use nf_RX6_50 rfl) rfl dX6_seen_4 ?_
  refine lv_iload_n hx hb dX6_seen_7 rfl (lv_at hl 1 rfl) ?_
  replace h := bd h
  obtain ⟨r1, hc, h⟩ := h
  refine r_calli hW (va_runVN (As := [.int p0]) (rest := []) hC.1 (c_X0_has l D cy ad A 2 (c_coop 2 rfl) _ _ _ hc) ⟨va_cnB 1 hts (gdN wd_202) rfl rfl rfl (NL.at hC.2.2 nw_RX6_77 rfl) (hts _ wd_12) (by decide +kernel) ⟨Nat.le_of_ble_eq_true rfl, Nat.le_of_ble_eq_true rfl⟩, hts _ wd_203, hts _ wd_204⟩ (r_preV hC hW (Nat.le_of_ble_eq_true rfl) rfl rfl) rfl rfl hl.1 rfl (lv_room (Nat.le_of_ble_eq_true rfl)) dX6_seen_8 ⟨Nat.zero_le _, Nat.zero_le _⟩) (fun H locs hWn => ?_)
  replace hW := hWn
  clear hWn hc
  refine lv_if_ne (tgt := 16) hx hb dX6_seen_11 (by decide) (fun cq => ?_) (fun cq => ?_)
  · replace h := tn cq h
    refine lv_iload_n hx hb dX6_seen_16 rfl (lv_at hl 2 rfl) ?_
    refine lv_iconst (v := 0) hx hb dX6_seen_17 (by decide) ?_
    refine lv_bipush (v := 60) hx hb dX6_seen_18 (by decide) ?_
    replace h := bd h
    obtain ⟨r2, hc, h⟩ := h
    refine r_calli hW (va_runS (As := [.int p1, .int 0, .int 60]) (rest := []) hC.1 (c_X6_isWithin l D cy ad A _ _ _ _ _ hc) (va_cwS 3 hts (gdS wd_101 wd_102 wd_5 wd_100) rfl rfl rfl (by decide +kernel) ⟨Nat.le_of_ble_eq_true rfl, Nat.le_of_ble_eq_true rfl⟩) (r_preS hC hW) rfl rfl hl.1 rfl (lv_room (Nat.le_of_ble_eq_true rfl)) dX6_seen_20 ⟨Nat.zero_le _, Nat.zero_le _⟩) (fun H locs hWn => ?_)
    replace hW := hWn
    clear hWn hc
    refine lv_if_ne (tgt := 29) hx hb dX6_seen_23 (by decide) (fun cq => ?_) (fun cq => ?_)
    · replace h := tn cq h
      refine lv_aload_n hx hb dX6_seen_29 rfl (lv_at hl 0 rfl) ?_
      refine r_getr hC hW 0 (Nat.le_of_ble_eq_true rfl) rfl rfl rfl (by decide) inUX6 (hts _ wd_175) rfl dX6_seen_30 ?_
      refine r_getrN hC hW 1 (Nat.le_of_ble_eq_true rfl) rfl rfl rfl (by decide) inUX4 (hC.2.2.use nf_RX6_65 rfl) rfl dX6_seen_33 ?_
      refine r_getiN hC hW 1 (Nat.le_of_ble_eq_true rfl) rfl rfl rfl (by decide) inUX2 (hC.2.2.use nf_RX6_74 rfl) rfl dX6_seen_36 ?_
      refine lv_bipush (v := 7) hx hb dX6_seen_39 (by decide) ?_
      refine lv_icmp_lt (tgt := 47) hx hb dX6_seen_41 (by decide) (fun cq => ?_) (fun cq => ?_)
      · replace h := tp cq h
        refine lv_aload_n hx hb dX6_seen_47 rfl (lv_at hl 0 rfl) ?_
        refine r_getr hC hW 0 (Nat.le_of_ble_eq_true rfl) rfl rfl rfl (by decide) inUX6 (hts _ wd_175) rfl dX6_seen_48 ?_
        refine r_getrN hC hW 1 (Nat.le_of_ble_eq_true rfl) rfl rfl rfl (by decide) inUX4 (hC.2.2.use nf_RX6_65 rfl) rfl dX6_seen_51 ?_
        refine lv_iload_n hx hb dX6_seen_54 rfl (lv_at hl 1 rfl) ?_
        refine lv_iload_n hx hb dX6_seen_55 rfl (lv_at hl 2 rfl) ?_
        replace h := bd h
        obtain ⟨σ3, hc, h⟩ := h
        refine r_callv hW (va_runVN (As := [.int p0, .int p1]) (rest := []) hC.1 (c_X2_addSight l D cy ad A 5 (c_hints 5 rfl) _ _ _ _ hc) ⟨va_cnB 2 hts (gdN wd_272) rfl rfl rfl (NL.at hC.2.2 nw_RX6_172 rfl) (hts _ wd_139) (by decide +kernel) ⟨Nat.le_of_ble_eq_true rfl, Nat.le_of_ble_eq_true rfl⟩, hts _ wd_273, hts _ wd_274⟩ (r_preV hC hW (Nat.le_of_ble_eq_true rfl) rfl rfl) rfl rfl hl.1 rfl (lv_room (Nat.le_of_ble_eq_true rfl)) dX6_seen_56 ⟨Nat.zero_le _, Nat.zero_le _⟩) (fun H locs hWn => ?_)
        replace hW := hWn
        clear hWn hc
        refine lv_aload_n hx hb dX6_seen_59 rfl (lv_at hl 0 rfl) ?_
        refine r_getr hC hW 0 (Nat.le_of_ble_eq_true rfl) rfl rfl rfl (by decide) inUX6 (hts _ wd_175) rfl dX6_seen_60 ?_
        refine r_getrN hC hW 1 (Nat.le_of_ble_eq_true rfl) rfl rfl rfl (by decide) inUX4 (hC.2.2.use nf_RX6_65 rfl) rfl dX6_seen_63 ?_
        refine r_getiN hC hW 1 (Nat.le_of_ble_eq_true rfl) rfl rfl rfl (by decide) inUX2 (hC.2.2.use nf_RX6_74 rfl) rfl dX6_seen_66 ?_
        exact r_iretW hC hr hlocks h hW dX6_seen_69
      · replace h := tn cq h
        refine lv_bipush (v := (-4)) hx hb dX6_seen_44 (by decide) ?_
        exact r_iretW hC hr hlocks h hW dX6_seen_46
    · replace h := tp cq h
      refine lv_bipush (v := (-2)) hx hb dX6_seen_26 (by decide) ?_
      exact r_iretW hC hr hlocks h hW dX6_seen_28
  · replace h := tp cq h
    refine lv_iconst (v := (-1)) hx hb dX6_seen_14 (by decide) ?_
    exact r_iretW hC hr hlocks h hW dX6_seen_15
set_option maxHeartbeats 4000000 in
set_option maxRecDepth 100000 in
theorem c_X6_worthIfHeated (l : Launch) (D : va_G) (cy : ClassId × ClassId) (ad : Nat → Nat) (A : Nat → Prop) (N : Nat) (p0 : Int32) (σ : Hp) (r : Int32) (h : t_X6_worthIfHeated N p0 σ = some r) : Ci l yX6_worthIfHeated us_X6_worthIfHeated ({ frames := 3, cells := 0, slots := 0, locals := 69 } : Room) D cy 55 shX ad A [.ref (ad 0), .int p0] σ r σ := by
  unfold t_X6_worthIfHeated at h
  refine Met.ofW (cc := cX6_worthIfHeated) (maxL := 2) (ret := (some .int)) (by decide) rfl ?_
  intro p e s m args below meth c s₁ B hml hv
  obtain ⟨rfl, hP, hK, hD, hA, hN⟩ := hv
  have hx := B.exec
  have hb := B.bytes
  have hr := B.returns
  have hlocks := B.notSynchronized
  have hts : ∀ w ∈ wsU, w.before _ s = true := fun w h => atoms_spec (ws := us_X6_worthIfHeated) B.pre w (List.mem_cons_of_mem _ h)
  have hown : s.vm.findClass RX6 = some m.cls := findClass_of_methodNamed B.named
  have hC : Cx p m c cX6_worthIfHeated 2 s _ wsU RX6 D cy := ⟨⟨hx, hb, hml, hown, hts⟩, hK, hN⟩
  have hW : Wd D cy 55 shX ad A s.heap σ s.heap [] := ⟨hP, hD, va_S.rf, hA⟩
  have hl := lv_entry ([.ref (ad 0), .int p0]) (n := 2) (Nat.le_of_ble_eq_true rfl)
  rw [lg_entry_eq]
  generalize (lg_sl ([.ref (ad 0), .int p0]) ++ List.replicate (2 - (lg_sl ([.ref (ad 0), .int p0])).length) Slot.unset).toArray = ls at hl ⊢
  have hl : lv_has ls 2 [(0, .ref (ad 0)), (1, .int p0)] := hl
  refine lv_aload_n hx hb dX6_worthIfHeated_0 rfl (lv_at hl 0 rfl) ?_
  refine r_getr hC hW 0 (Nat.le_of_ble_eq_true rfl) rfl rfl rfl (by decide) inUX6 (hts _ wd_175) rfl dX6_worthIfHeated_1 ?_
  refine r_getrN hC hW 0 (Nat.le_of_ble_eq_true rfl) rfl rfl rfl (by decide) inUX4 (hC.2.2.use nf_RX6_50 rfl) rfl dX6_worthIfHeated_4 ?_
  refine lv_aload_n hx hb dX6_worthIfHeated_7 rfl (lv_at hl 0 rfl) ?_
  refine r_getr hC hW 0 (Nat.le_of_ble_eq_true rfl) rfl rfl rfl (by decide) inUX6 (hts _ wd_175) rfl dX6_worthIfHeated_8 ?_
  refine r_getrN hC hW 0 (Nat.le_of_ble_eq_true rfl) rfl rfl rfl (by decide) inUX4 (hC.2.2.use nf_RX6_50 rfl) rfl dX6_worthIfHeated_11 ?_
  refine lv_iload_n hx hb dX6_worthIfHeated_14 rfl (lv_at hl 1 rfl) ?_
  replace h := bd h
  obtain ⟨r1, hc, h⟩ := h
  refine r_calli hW (va_runVN (As := [.int p0]) (rest := [.ref (ad 2)]) hC.1 (c_X0_hatchingIfHeated l D cy ad A N 2 (c_coop 2 rfl) _ _ _ hc) ⟨va_cnB 1 hts (gdN wd_47) rfl rfl rfl (NL.at hC.2.2 nw_RX6_281 rfl) (hts _ wd_12) (by decide +kernel) ⟨Nat.le_of_ble_eq_true rfl, Nat.le_of_ble_eq_true rfl⟩, hts _ wd_49, hts _ wd_50⟩ (r_preV hC hW (Nat.le_of_ble_eq_true rfl) rfl rfl) rfl rfl hl.1 rfl (lv_room (Nat.le_of_ble_eq_true rfl)) dX6_worthIfHeated_15 ⟨Nat.zero_le _, Nat.zero_le _⟩) (fun H locs hWn => ?_)
  replace hW := hWn
  clear hWn hc
  refine lv_bipush (v := 63) hx hb dX6_worthIfHeated_18 (by decide) ?_
  replace h := bd h
  obtain ⟨r2, hc, h⟩ := h
  refine r_calli hW (va_runVN (As := [.int r1, .int 63]) (rest := []) hC.1 (c_X0_worthOf l D cy ad A N 2 (c_coop 2 rfl) _ _ _ _ hc) ⟨va_cnB 2 hts (gdN wd_230) rfl rfl rfl (NL.at hC.2.2 nw_RX6_284 rfl) (hts _ wd_12) (by decide +kernel) ⟨Nat.le_of_ble_eq_true rfl, Nat.le_of_ble_eq_true rfl⟩, hts _ wd_231, hts _ wd_232⟩ (r_preV hC hW (Nat.le_of_ble_eq_true rfl) rfl rfl) rfl rfl hl.1 rfl (lv_room (Nat.le_of_ble_eq_true rfl)) dX6_worthIfHeated_20 ⟨Nat.zero_le _, Nat.zero_le _⟩) (fun H locs hWn => ?_)
  replace hW := hWn
  clear hWn hc
  exact r_iretP hC hr hlocks h hW dX6_worthIfHeated_23
set_option maxHeartbeats 4000000 in
set_option maxRecDepth 100000 in
theorem c_stat_at (l : Launch) (D : va_G) (cy : ClassId × ClassId) (ad : Nat → Nat) (A : Nat → Prop) (t0 : Nat) (p1 : Int32) (σ : Hp) (r : Int32) (h : t_stat_at p1 = some r) : CiT l yX6_at us_X6_at ({ frames := 0, cells := 0, slots := 0, locals := 0 } : Room) D cy 55 shX ad A t0 [.ref t0, .int p1] σ r σ := by
  unfold t_stat_at at h
  refine Met.ofW (cc := cX6_at) (maxL := 2) (ret := (some .int)) (by decide) rfl ?_
  intro p e s m args below meth c s₁ B hml hv
  obtain ⟨rfl, ⟨hP, hK, hD, hA, hN⟩, hST⟩ := hv
  have hx := B.exec
  have hb := B.bytes
  have hr := B.returns
  have hlocks := B.notSynchronized
  have hts : ∀ w ∈ wsU, w.before _ s = true := fun w h => atoms_spec (ws := us_X6_at) B.pre w (List.mem_cons_of_mem _ h)
  have hown : s.vm.findClass RX6 = some m.cls := findClass_of_methodNamed B.named
  have hC : Cx p m c cX6_at 2 s _ wsU RX6 D cy := ⟨⟨hx, hb, hml, hown, hts⟩, hK, hN⟩
  have hW : Wd D cy 55 shX ad A s.heap σ s.heap [] := ⟨hP, hD, va_S.rf, hA⟩
  have hl := lv_entry ([.ref t0, .int p1]) (n := 2) (Nat.le_of_ble_eq_true rfl)
  rw [lg_entry_eq]
  generalize (lg_sl ([.ref t0, .int p1]) ++ List.replicate (2 - (lg_sl ([.ref t0, .int p1])).length) Slot.unset).toArray = ls at hl ⊢
  have hl : lv_has ls 2 [(0, .ref t0), (1, .int p1)] := hl
  have J20 : t_stat_at_20  = some r → ∀ (H : Heap) (locs : List Loc), Wd D cy 55 shX ad A s.heap σ H locs → ∀ ls : Array Slot, lv_has ls 2 [] → Gi p l e us_X6_at ({ frames := 0, cells := 0, slots := 0, locals := 0 } : Room) s m [.ref t0, .int p1] below meth c D cy 55 shX ad A r σ H locs (F0 m 20 ls []) := by
    intro  h H locs hW ls hl
    unfold t_stat_at_20 at h
    refine lv_iconst (v := 0) hx hb dX6_at_20 (by decide) ?_
    exact r_iretP hC hr hlocks h hW dX6_at_21
  refine lv_aload_n hx hb dX6_at_0 rfl (lv_at hl 0 rfl) ?_
  refine lv_ifnull hx hb dX6_at_1 ?_
  refine lv_iload_n hx hb dX6_at_4 rfl (lv_at hl 1 rfl) ?_
  refine lv_if_lt (tgt := 20) hx hb dX6_at_5 (by decide) (fun cq => ?_) (fun cq => ?_)
  · replace h := tp cq h
    exact J20  h _ _ hW _ (lv_sub hl [] rfl)
  · replace h := tn cq h
    refine lv_iload_n hx hb dX6_at_8 rfl (lv_at hl 1 rfl) ?_
    refine lv_aload_n hx hb dX6_at_9 rfl (lv_at hl 0 rfl) ?_
    refine va_tlen hx hb hST.2 hW.2.2.1 rfl dX6_at_10 ?_
    refine lv_icmp_ge (tgt := 20) hx hb dX6_at_11 (by decide) (fun cq => ?_) (fun cq => ?_)
    · replace h := tp cq h
      exact J20  h _ _ hW _ (lv_sub hl [] rfl)
    · replace h := tn cq h
      refine lv_aload_n hx hb dX6_at_14 rfl (lv_at hl 0 rfl) ?_
      refine lv_iload_n hx hb dX6_at_15 rfl (lv_at hl 1 rfl) ?_
      replace h := og h
      obtain ⟨hi, h⟩ := h
      refine va_ti hx hb hST.2 hW.2.2.1 hi rfl dX6_at_16 ?_
      refine lv_goto (tgt := 21) hx hb dX6_at_17 (by decide) ?_
      exact r_iretP hC hr hlocks h hW dX6_at_21
set_option maxHeartbeats 4000000 in
set_option maxRecDepth 100000 in
theorem c_X6_shapley (l : Launch) (D : va_G) (cy : ClassId × ClassId) (ad : Nat → Nat) (A : Nat → Prop) (t0 : Nat) (N : Nat) (p0 : Int32) (p1 : Int32) (σ : Hp) (r : Int64) (h : t_X6_shapley N p0 p1 σ = some r) : ClT l yX6_shapley us_X6_shapley ({ frames := 4, cells := 0, slots := 0, locals := 90 } : Room) D cy 55 shX ad A t0 [.ref (ad 0), .int p0, .int p1] σ r σ := by
  unfold t_X6_shapley at h
  refine Met.ofW (cc := cX6_shapley) (maxL := 7) (ret := (some .long)) (by decide) rfl ?_
  intro p e s m args below meth c s₁ B hml hv
  obtain ⟨rfl, ⟨hP, hK, hD, hA, hN⟩, hST⟩ := hv
  have hx := B.exec
  have hb := B.bytes
  have hr := B.returns
  have hlocks := B.notSynchronized
  have hts : ∀ w ∈ wsU, w.before _ s = true := fun w h => atoms_spec (ws := us_X6_shapley) B.pre w (List.mem_cons_of_mem _ h)
  have hown : s.vm.findClass RX6 = some m.cls := findClass_of_methodNamed B.named
  have hC : Cx p m c cX6_shapley 7 s _ wsU RX6 D cy := ⟨⟨hx, hb, hml, hown, hts⟩, hK, hN⟩
  have hW : Wd D cy 55 shX ad A s.heap σ s.heap [] := ⟨hP, hD, va_S.rf, hA⟩
  have hl := lv_entry ([.ref (ad 0), .int p0, .int p1]) (n := 7) (Nat.le_of_ble_eq_true rfl)
  rw [lg_entry_eq]
  generalize (lg_sl ([.ref (ad 0), .int p0, .int p1]) ++ List.replicate (7 - (lg_sl ([.ref (ad 0), .int p0, .int p1])).length) Slot.unset).toArray = ls at hl ⊢
  have hl : lv_has ls 7 [(0, .ref (ad 0)), (1, .int p0), (2, .int p1)] := hl
  have L31 : ∀ (f : Nat) (v1 : Int32) (v2 : Int32) (v3 : Int64) (v5 : Int32), t_X6_shapley_31 N f v1 v2 v3 v5 σ = some r → ∀ (H : Heap) (locs : List Loc), Wd D cy 55 shX ad A s.heap σ H locs → ∀ ls : Array Slot, lv_has ls 7 [(0, .ref (ad 0)), (1, .int v1), (2, .int v2), (3, .long v3), (5, .int v5)] → Gl p l e us_X6_shapley ({ frames := 4, cells := 0, slots := 0, locals := 90 } : Room) s m [.ref (ad 0), .int p0, .int p1] below meth c D cy 55 shX ad A r σ H locs (F0 m 31 ls []) := by
    intro f
    unfold t_X6_shapley_31
    refine loopG_ind (fun (T : Int32 → Int32 → Int64 → Int32 → Hp → Option Int64) => ∀ (v1 : Int32) (v2 : Int32) (v3 : Int64) (v5 : Int32), T v1 v2 v3 v5 σ = some r → ∀ (H : Heap) (locs : List Loc), Wd D cy 55 shX ad A s.heap σ H locs → ∀ ls : Array Slot, lv_has ls 7 [(0, .ref (ad 0)), (1, .int v1), (2, .int v2), (3, .long v3), (5, .int v5)] → Gl p l e us_X6_shapley ({ frames := 4, cells := 0, slots := 0, locals := 90 } : Room) s m [.ref (ad 0), .int p0, .int p1] below meth c D cy 55 shX ad A r σ H locs (F0 m 31 ls [])) ?_ ?_ f
    · intro v1 v2 v3 v5 h; exact absurd h (by simp)
    · intro k31 ih31
      have J89 : ∀ (v1 : Int32) (v2 : Int32) (v3 : Int64) (v5 : Int32), t_X6_shapley_89 N k31 v1 v2 v3 v5 σ = some r → ∀ (H : Heap) (locs : List Loc), Wd D cy 55 shX ad A s.heap σ H locs → ∀ ls : Array Slot, lv_has ls 7 [(0, .ref (ad 0)), (1, .int v1), (2, .int v2), (3, .long v3), (5, .int v5)] → Gl p l e us_X6_shapley ({ frames := 4, cells := 0, slots := 0, locals := 90 } : Room) s m [.ref (ad 0), .int p0, .int p1] below meth c D cy 55 shX ad A r σ H locs (F0 m 89 ls []) := by
        intro v1 v2 v3 v5 h H locs hW ls hl
        unfold t_X6_shapley_89 at h
        replace h := bx h
        obtain ⟨x1, ex1, h⟩ := h
        refine lv_iinc (v := x1) (lv' := [(5, .int x1), (0, .ref (ad 0)), (1, .int v1), (2, .int v2), (3, .long v3)]) hx hb dX6_shapley_89 hl (k := 4) rfl (by rw [ex1]; rfl) (by decide) rfl (fun ls hln => ?_)
        replace hl := hln
        clear hln ex1
        refine lv_goto (tgt := 31) hx hb dX6_shapley_92 (by decide) ?_
        exact ih31 _ _ _ _ h _ _ hW _ (lv_sub hl [1, 2, 3, 4, 0] rfl)
      intro v1 v2 v3 v5 h H locs hW ls hl
      refine lv_iload hx hb dX6_shapley_31 (lv_at hl 4 rfl) ?_
      refine lv_bipush (v := 64) hx hb dX6_shapley_33 (by decide) ?_
      refine lv_icmp_ge (tgt := 95) hx hb dX6_shapley_35 (by decide) (fun cq => ?_) (fun cq => ?_)
      · replace h := tp cq h
        refine lv_lload_n hx hb dX6_shapley_95 rfl (lv_at hl 3 rfl) ?_
        refine lv_ldc2 hx hb hown (hts _ wd_275) dX6_shapley_96 ?_
        refine lv_iload_n hx hb dX6_shapley_99 rfl (lv_at hl 2 rfl) ?_
        replace h := bd h
        obtain ⟨r2, hc, h⟩ := h
        refine r_calll hW (va_runS (As := [.long v3, .long (720), .int v2]) (rest := []) hC.1 (c_X6_lowest l D cy ad A N _ _ _ _ _ hc) (va_cwS 3 hts (gdS wd_237 wd_238 wd_5 wd_236) rfl rfl rfl (by decide +kernel) ⟨Nat.le_of_ble_eq_true rfl, Nat.le_of_ble_eq_true rfl⟩) (r_preS hC hW) rfl rfl hl.1 rfl (lv_room (Nat.le_of_ble_eq_true rfl)) dX6_shapley_100 ⟨Nat.zero_le _, Nat.zero_le _⟩) (fun H locs hWn => ?_)
        replace hW := hWn
        clear hWn hc
        exact r_lretP hC hr hlocks h hW dX6_shapley_103
      · replace h := tn cq h
        refine lv_iload hx hb dX6_shapley_38 (lv_at hl 4 rfl) ?_
        refine lv_iload_n hx hb dX6_shapley_40 rfl (lv_at hl 1 rfl) ?_
        replace h := bd h
        obtain ⟨r3, hc, h⟩ := h
        refine r_calli hW (va_runS (As := [.int v5, .int v1]) (rest := []) hC.1 (c_X6_hasBit l D cy ad A _ _ _ _ hc) (va_cwS 2 hts (gdS wd_213 wd_32 wd_5 wd_31) rfl rfl rfl (by decide +kernel) ⟨Nat.le_of_ble_eq_true rfl, Nat.le_of_ble_eq_true rfl⟩) (r_preS hC hW) rfl rfl hl.1 rfl (lv_room (Nat.le_of_ble_eq_true rfl)) dX6_shapley_41 ⟨Nat.zero_le _, Nat.zero_le _⟩) (fun H locs hWn => ?_)
        replace hW := hWn
        clear hWn hc
        refine lv_if_eq (tgt := 50) hx hb dX6_shapley_44 (by decide) (fun cq => ?_) (fun cq => ?_)
        · replace h := tp cq h
          refine lv_aload_n hx hb dX6_shapley_50 rfl (lv_at hl 0 rfl) ?_
          refine lv_iload hx hb dX6_shapley_51 (lv_at hl 4 rfl) ?_
          refine lv_iload_n hx hb dX6_shapley_53 rfl (lv_at hl 1 rfl) ?_
          replace h := bd h
          obtain ⟨r4, hc, h⟩ := h
          refine r_calli hW (va_runS (As := [.int v1]) (rest := [.int v5, .ref (ad 0)]) hC.1 (c_X6_bit l D cy ad A _ _ _ hc) (va_cwS 1 hts (gdS wd_229 wd_26 wd_5 wd_25) rfl rfl rfl (by decide +kernel) ⟨Nat.le_of_ble_eq_true rfl, Nat.le_of_ble_eq_true rfl⟩) (r_preS hC hW) rfl rfl hl.1 rfl (lv_room (Nat.le_of_ble_eq_true rfl)) dX6_shapley_54 ⟨Nat.zero_le _, Nat.zero_le _⟩) (fun H locs hWn => ?_)
          replace hW := hWn
          clear hWn hc
          refine lv_ior hx hb dX6_shapley_57 ?_
          replace h := bd h
          obtain ⟨r5, hc, h⟩ := h
          refine r_calli hW (va_runV (As := [.int (v5 ||| r4)]) (rest := []) hC.1 (c_X6_worthIfHeated l D cy ad A N _ _ _ hc) (cwV 1 hts (gdV wd_277 wd_278 wd_279 wd_5 wd_276) rfl rfl rfl (by decide +kernel) ⟨Nat.le_of_ble_eq_true rfl, Nat.le_of_ble_eq_true rfl⟩) (r_preV hC hW (Nat.le_of_ble_eq_true rfl) rfl rfl) rfl rfl hl.1 rfl (lv_room (Nat.le_of_ble_eq_true rfl)) dX6_shapley_58 ⟨Nat.zero_le _, Nat.zero_le _⟩) (fun H locs hWn => ?_)
          replace hW := hWn
          clear hWn hc
          refine lv_aload_n hx hb dX6_shapley_61 rfl (lv_at hl 0 rfl) ?_
          refine lv_iload hx hb dX6_shapley_62 (lv_at hl 4 rfl) ?_
          replace h := bd h
          obtain ⟨r6, hc, h⟩ := h
          refine r_calli hW (va_runV (As := [.int v5]) (rest := [.int r5]) hC.1 (c_X6_worthIfHeated l D cy ad A N _ _ _ hc) (cwV 1 hts (gdV wd_277 wd_278 wd_279 wd_5 wd_276) rfl rfl rfl (by decide +kernel) ⟨Nat.le_of_ble_eq_true rfl, Nat.le_of_ble_eq_true rfl⟩) (r_preV hC hW (Nat.le_of_ble_eq_true rfl) rfl rfl) rfl rfl hl.1 rfl (lv_room (Nat.le_of_ble_eq_true rfl)) dX6_shapley_64 ⟨Nat.zero_le _, Nat.zero_le _⟩) (fun H locs hWn => ?_)
          replace hW := hWn
          clear hWn hc
          refine lv_isub hx hb dX6_shapley_67 ?_
          replace h := bx h
          obtain ⟨x7, ex7, h⟩ := h
          refine tope ex7 ?_
          clear ex7
          refine lv_istore (lv' := [(6, .int x7), (0, .ref (ad 0)), (1, .int v1), (2, .int v2), (3, .long v3), (5, .int v5)]) hx hb dX6_shapley_68 hl (by decide) rfl (fun ls hln => ?_)
          replace hl := hln
          clear hln
          refine lv_lload_n hx hb dX6_shapley_70 rfl (lv_at hl 4 rfl) ?_
          refine va_gets hx hb hST.1 hW.2.2.1 hown (hts _ wd_280) (fun _ h9 => h9) dX6_shapley_71 ?_
          refine lv_iload hx hb dX6_shapley_74 (lv_at hl 5 rfl) ?_
          replace h := bd h
          obtain ⟨r8, hc, h⟩ := h
          refine r_calli hW (va_runS (As := [.int v5]) (rest := [.ref t0, .long v3]) hC.1 (c_J6_bitCount_0f7a4 l D cy ad A _ _ _ hc) (va_cwS 1 hts (gdS wd_257 wd_153 wd_154 wd_151) rfl rfl rfl (by decide +kernel) ⟨Nat.le_of_ble_eq_true rfl, Nat.le_of_ble_eq_true rfl⟩) (r_preS hC hW) rfl rfl hl.1 rfl (lv_room (Nat.le_of_ble_eq_true rfl)) dX6_shapley_76 ⟨Nat.zero_le _, Nat.zero_le _⟩) (fun H locs hWn => ?_)
          replace hW := hWn
          clear hWn hc
          replace h := bd h
          obtain ⟨r9, hc, h⟩ := h
          refine r_calli hW (va_runS (As := [.ref t0, .int r8]) (rest := [.long v3]) hC.1 (c_stat_at l D cy ad A t0 _ _ _ hc) (va_cwS 2 hts (gdS wd_212 wd_6 wd_5 wd_4) rfl rfl rfl (by decide +kernel) ⟨Nat.le_of_ble_eq_true rfl, Nat.le_of_ble_eq_true rfl⟩) (r_preSt hC hW hST) rfl rfl hl.1 rfl (lv_room (Nat.le_of_ble_eq_true rfl)) dX6_shapley_79 ⟨Nat.zero_le _, Nat.zero_le _⟩) (fun H locs hWn => ?_)
          replace hW := hWn
          clear hWn hc
          refine lv_i2l hx hb dX6_shapley_82 rfl ?_
          refine lv_iload hx hb dX6_shapley_83 (lv_at hl 0 rfl) ?_
          refine lv_i2l hx hb dX6_shapley_85 rfl ?_
          refine lv_lmul hx hb dX6_shapley_86 ?_
          refine lv_ladd hx hb dX6_shapley_87 ?_
          replace h := bx h
          obtain ⟨x10, ex10, h⟩ := h
          refine topel ex10 ?_
          clear ex10
          refine lv_lstore_n (lv' := [(3, .long x10), (6, .int x7), (0, .ref (ad 0)), (1, .int v1), (2, .int v2), (5, .int v5)]) hx hb dX6_shapley_88 rfl hl (by decide) rfl (fun ls hln => ?_)
          replace hl := hln
          clear hln
          exact J89 _ _ _ _ h _ _ hW _ (lv_sub hl [2, 3, 4, 0, 5] rfl)
        · replace h := tn cq h
          refine lv_goto (tgt := 89) hx hb dX6_shapley_47 (by decide) ?_
          exact J89 _ _ _ _ h _ _ hW _ (lv_sub hl [0, 1, 2, 3, 4] rfl)
  refine lv_iload_n hx hb dX6_shapley_0 rfl (lv_at hl 1 rfl) ?_
  refine lv_iconst (v := 0) hx hb dX6_shapley_1 (by decide) ?_
  refine lv_iconst (v := 5) hx hb dX6_shapley_2 (by decide) ?_
  replace h := bd h
  obtain ⟨r11, hc, h⟩ := h
  refine r_calli hW (va_runS (As := [.int p0, .int 0, .int 5]) (rest := []) hC.1 (c_X6_isWithin l D cy ad A _ _ _ _ _ hc) (va_cwS 3 hts (gdS wd_101 wd_102 wd_5 wd_100) rfl rfl rfl (by decide +kernel) ⟨Nat.le_of_ble_eq_true rfl, Nat.le_of_ble_eq_true rfl⟩) (r_preS hC hW) rfl rfl hl.1 rfl (lv_room (Nat.le_of_ble_eq_true rfl)) dX6_shapley_3 ⟨Nat.zero_le _, Nat.zero_le _⟩) (fun H locs hWn => ?_)
  replace hW := hWn
  clear hWn hc
  refine lv_if_ne (tgt := 13) hx hb dX6_shapley_6 (by decide) (fun cq => ?_) (fun cq => ?_)
  · replace h := tn cq h
    refine lv_iload_n hx hb dX6_shapley_13 rfl (lv_at hl 2 rfl) ?_
    refine lv_iconst (v := 0) hx hb dX6_shapley_14 (by decide) ?_
    refine lv_iconst (v := 1) hx hb dX6_shapley_15 (by decide) ?_
    replace h := bd h
    obtain ⟨r12, hc, h⟩ := h
    refine r_calli hW (va_runS (As := [.int p1, .int 0, .int 1]) (rest := []) hC.1 (c_X6_isWithin l D cy ad A _ _ _ _ _ hc) (va_cwS 3 hts (gdS wd_101 wd_102 wd_5 wd_100) rfl rfl rfl (by decide +kernel) ⟨Nat.le_of_ble_eq_true rfl, Nat.le_of_ble_eq_true rfl⟩) (r_preS hC hW) rfl rfl hl.1 rfl (lv_room (Nat.le_of_ble_eq_true rfl)) dX6_shapley_16 ⟨Nat.zero_le _, Nat.zero_le _⟩) (fun H locs hWn => ?_)
    replace hW := hWn
    clear hWn hc
    refine lv_if_ne (tgt := 26) hx hb dX6_shapley_19 (by decide) (fun cq => ?_) (fun cq => ?_)
    · replace h := tn cq h
      refine lv_lconst (v := 0) hx hb dX6_shapley_26 (by decide) ?_
      refine lv_lstore_n (lv' := [(3, .long 0), (0, .ref (ad 0)), (1, .int p0), (2, .int p1)]) hx hb dX6_shapley_27 rfl hl (by decide) rfl (fun ls hln => ?_)
      replace hl := hln
      clear hln
      refine lv_iconst (v := 0) hx hb dX6_shapley_28 (by decide) ?_
      refine lv_istore (lv' := [(5, .int 0), (3, .long 0), (0, .ref (ad 0)), (1, .int p0), (2, .int p1)]) hx hb dX6_shapley_29 hl (by decide) rfl (fun ls hln => ?_)
      replace hl := hln
      clear hln
      exact L31 _ _ _ _ _ h _ _ hW _ (lv_sub hl [2, 3, 4, 1, 0] rfl)
    · replace h := tp cq h
      refine lv_ldc2 hx hb hown (hts _ wd_240) dX6_shapley_22 ?_
      exact r_lretP hC hr hlocks h hW dX6_shapley_25
  · replace h := tp cq h
    refine lv_ldc2 hx hb hown (hts _ wd_281) dX6_shapley_9 ?_
    exact r_lretP hC hr hlocks h hW dX6_shapley_12
set_option maxHeartbeats 4000000 in
set_option maxRecDepth 100000 in
theorem c_X6_soonest (l : Launch) (D : va_G) (cy : ClassId × ClassId) (ad : Nat → Nat) (A : Nat → Prop) (N : Nat) (p0 : Int32) (σ : Hp) (r : Int32) (h : t_X6_soonest N p0 σ = some r) : Ci l yX6_soonest us_X6_soonest ({ frames := 3, cells := 0, slots := 0, locals := 66 } : Room) D cy 55 shX ad A [.ref (ad 0), .int p0] σ r σ := by
  unfold t_X6_soonest at h
  refine Met.ofW (cc := cX6_soonest) (maxL := 6) (ret := (some .int)) (by decide) rfl ?_
  intro p e s m args below meth c s₁ B hml hv
  obtain ⟨rfl, hP, hK, hD, hA, hN⟩ := hv
  have hx := B.exec
  have hb := B.bytes
  have hr := B.returns
  have hlocks := B.notSynchronized
  have hts : ∀ w ∈ wsU, w.before _ s = true := fun w h => atoms_spec (ws := us_X6_soonest) B.pre w (List.mem_cons_of_mem _ h)
  have hown : s.vm.findClass RX6 = some m.cls := findClass_of_methodNamed B.named
  have hC : Cx p m c cX6_soonest 6 s _ wsU RX6 D cy := ⟨⟨hx, hb, hml, hown, hts⟩, hK, hN⟩
  have hW : Wd D cy 55 shX ad A s.heap σ s.heap [] := ⟨hP, hD, va_S.rf, hA⟩
  have hl := lv_entry ([.ref (ad 0), .int p0]) (n := 6) (Nat.le_of_ble_eq_true rfl)
  rw [lg_entry_eq]
  generalize (lg_sl ([.ref (ad 0), .int p0]) ++ List.replicate (6 - (lg_sl ([.ref (ad 0), .int p0])).length) Slot.unset).toArray = ls at hl ⊢
  have hl : lv_has ls 6 [(0, .ref (ad 0)), (1, .int p0)] := hl
  have L20 : ∀ (f : Nat) (v1 : Int32) (v2 : Int32) (v3 : Int32) (v4 : Int32), t_X6_soonest_20 N f v1 v2 v3 v4 σ = some r → ∀ (H : Heap) (locs : List Loc), Wd D cy 55 shX ad A s.heap σ H locs → ∀ ls : Array Slot, lv_has ls 6 [(0, .ref (ad 0)), (1, .int v1), (2, .int v2), (3, .int v3), (4, .int v4)] → Gi p l e us_X6_soonest ({ frames := 3, cells := 0, slots := 0, locals := 66 } : Room) s m [.ref (ad 0), .int p0] below meth c D cy 55 shX ad A r σ H locs (F0 m 20 ls []) := by
    intro f
    unfold t_X6_soonest_20
    refine loopG_ind (fun (T : Int32 → Int32 → Int32 → Int32 → Hp → Option Int32) => ∀ (v1 : Int32) (v2 : Int32) (v3 : Int32) (v4 : Int32), T v1 v2 v3 v4 σ = some r → ∀ (H : Heap) (locs : List Loc), Wd D cy 55 shX ad A s.heap σ H locs → ∀ ls : Array Slot, lv_has ls 6 [(0, .ref (ad 0)), (1, .int v1), (2, .int v2), (3, .int v3), (4, .int v4)] → Gi p l e us_X6_soonest ({ frames := 3, cells := 0, slots := 0, locals := 66 } : Room) s m [.ref (ad 0), .int p0] below meth c D cy 55 shX ad A r σ H locs (F0 m 20 ls [])) ?_ ?_ f
    · intro v1 v2 v3 v4 h; exact absurd h (by simp)
    · intro k20 ih20
      intro v1 v2 v3 v4 h H locs hW ls hl
      refine lv_iload hx hb dX6_soonest_20 (lv_at hl 4 rfl) ?_
      refine lv_bipush (v := 6) hx hb dX6_soonest_22 (by decide) ?_
      refine lv_icmp_ge (tgt := 59) hx hb dX6_soonest_24 (by decide) (fun cq => ?_) (fun cq => ?_)
      · replace h := tp cq h
        refine lv_iload_n hx hb dX6_soonest_59 rfl (lv_at hl 2 rfl) ?_
        refine lv_iload_n hx hb dX6_soonest_60 rfl (lv_at hl 3 rfl) ?_
        refine lv_iload_n hx hb dX6_soonest_61 rfl (lv_at hl 1 rfl) ?_
        refine lv_iadd hx hb dX6_soonest_62 ?_
        refine lv_iconst (v := 1) hx hb dX6_soonest_63 (by decide) ?_
        refine lv_isub hx hb dX6_soonest_64 ?_
        refine lv_iload_n hx hb dX6_soonest_65 rfl (lv_at hl 1 rfl) ?_
        replace h := od h
        obtain ⟨hnz, h⟩ := h
        refine lv_idiv hx hb dX6_soonest_66 hnz ?_
        refine va_mmax hx hb (hml.trans hl.1.symm) hown (hts _ wd_282) (hts _ wd_34) (hts _ wd_35) (hts _ wd_36) (Nat.le_of_ble_eq_true rfl) (Nat.le_of_ble_eq_true rfl) (Nat.le_refl _) (Nat.le_refl _) dX6_soonest_67 ?_
        exact r_iretP hC hr hlocks h hW dX6_soonest_70
      · replace h := tn cq h
        refine lv_aload_n hx hb dX6_soonest_27 rfl (lv_at hl 0 rfl) ?_
        refine r_getr hC hW 0 (Nat.le_of_ble_eq_true rfl) rfl rfl rfl (by decide) inUX6 (hts _ wd_175) rfl dX6_soonest_28 ?_
        refine r_getrN hC hW 0 (Nat.le_of_ble_eq_true rfl) rfl rfl rfl (by decide) inUX4 (hC.2.2.use nf_RX6_50 rfl) rfl dX6_soonest_31 ?_
        refine lv_iload hx hb dX6_soonest_34 (lv_at hl 4 rfl) ?_
        replace h := bd h
        obtain ⟨r1, hc, h⟩ := h
        refine r_calli hW (va_runVN (As := [.int v4]) (rest := []) hC.1 (c_X0_hoursToHeat l D cy ad A N 2 (c_coop 2 rfl) _ _ _ hc) ⟨va_cnB 1 hts (gdN wd_283) rfl rfl rfl (NL.at hC.2.2 nw_RX6_205 rfl) (hts _ wd_12) (by decide +kernel) ⟨Nat.le_of_ble_eq_true rfl, Nat.le_of_ble_eq_true rfl⟩, hts _ wd_284, hts _ wd_285⟩ (r_preV hC hW (Nat.le_of_ble_eq_true rfl) rfl rfl) rfl rfl hl.1 rfl (lv_room (Nat.le_of_ble_eq_true rfl)) dX6_soonest_36 ⟨Nat.zero_le _, Nat.zero_le _⟩) (fun H locs hWn => ?_)
        replace hW := hWn
        clear hWn hc
        refine lv_istore (lv' := [(5, .int r1), (0, .ref (ad 0)), (1, .int v1), (2, .int v2), (3, .int v3), (4, .int v4)]) hx hb dX6_soonest_39 hl (by decide) rfl (fun ls hln => ?_)
        replace hl := hln
        clear hln
        refine lv_iload_n hx hb dX6_soonest_41 rfl (lv_at hl 3 rfl) ?_
        refine lv_iload hx hb dX6_soonest_42 (lv_at hl 0 rfl) ?_
        refine va_mmax hx hb (hml.trans hl.1.symm) hown (hts _ wd_282) (hts _ wd_34) (hts _ wd_35) (hts _ wd_36) (Nat.le_of_ble_eq_true rfl) (Nat.le_of_ble_eq_true rfl) (Nat.le_refl _) (Nat.le_refl _) dX6_soonest_44 ?_
        replace h := bx h
        obtain ⟨x2, ex2, h⟩ := h
        refine tope ex2 ?_
        clear ex2
        refine lv_istore_n (lv' := [(2, .int x2), (5, .int r1), (0, .ref (ad 0)), (1, .int v1), (3, .int v3), (4, .int v4)]) hx hb dX6_soonest_47 rfl hl (by decide) rfl (fun ls hln => ?_)
        replace hl := hln
        clear hln
        refine lv_iload_n hx hb dX6_soonest_48 rfl (lv_at hl 4 rfl) ?_
        refine lv_iload hx hb dX6_soonest_49 (lv_at hl 1 rfl) ?_
        refine lv_iadd hx hb dX6_soonest_51 ?_
        replace h := bx h
        obtain ⟨x3, ex3, h⟩ := h
        refine tope ex3 ?_
        clear ex3
        refine lv_istore_n (lv' := [(3, .int x3), (2, .int x2), (5, .int r1), (0, .ref (ad 0)), (1, .int v1), (4, .int v4)]) hx hb dX6_soonest_52 rfl hl (by decide) rfl (fun ls hln => ?_)
        replace hl := hln
        clear hln
        replace h := bx h
        obtain ⟨x4, ex4, h⟩ := h
        refine lv_iinc (v := x4) (lv' := [(4, .int x4), (3, .int x3), (2, .int x2), (5, .int r1), (0, .ref (ad 0)), (1, .int v1)]) hx hb dX6_soonest_53 hl (k := 5) rfl (by rw [ex4]; rfl) (by decide) rfl (fun ls hln => ?_)
        replace hl := hln
        clear hln ex4
        refine lv_goto (tgt := 20) hx hb dX6_soonest_56 (by decide) ?_
        exact ih20 _ _ _ _ h _ _ hW _ (lv_sub hl [4, 5, 2, 1, 0] rfl)
  refine lv_iload_n hx hb dX6_soonest_0 rfl (lv_at hl 1 rfl) ?_
  refine lv_iconst (v := 1) hx hb dX6_soonest_1 (by decide) ?_
  refine lv_bipush (v := 6) hx hb dX6_soonest_2 (by decide) ?_
  replace h := bd h
  obtain ⟨r5, hc, h⟩ := h
  refine r_calli hW (va_runS (As := [.int p0, .int 1, .int 6]) (rest := []) hC.1 (c_X6_isWithin l D cy ad A _ _ _ _ _ hc) (va_cwS 3 hts (gdS wd_101 wd_102 wd_5 wd_100) rfl rfl rfl (by decide +kernel) ⟨Nat.le_of_ble_eq_true rfl, Nat.le_of_ble_eq_true rfl⟩) (r_preS hC hW) rfl rfl hl.1 rfl (lv_room (Nat.le_of_ble_eq_true rfl)) dX6_soonest_4 ⟨Nat.zero_le _, Nat.zero_le _⟩) (fun H locs hWn => ?_)
  replace hW := hWn
  clear hWn hc
  refine lv_if_ne (tgt := 13) hx hb dX6_soonest_7 (by decide) (fun cq => ?_) (fun cq => ?_)
  · replace h := tn cq h
    refine lv_iconst (v := 0) hx hb dX6_soonest_13 (by decide) ?_
    refine lv_istore_n (lv' := [(2, .int 0), (0, .ref (ad 0)), (1, .int p0)]) hx hb dX6_soonest_14 rfl hl (by decide) rfl (fun ls hln => ?_)
    replace hl := hln
    clear hln
    refine lv_iconst (v := 0) hx hb dX6_soonest_15 (by decide) ?_
    refine lv_istore_n (lv' := [(3, .int 0), (2, .int 0), (0, .ref (ad 0)), (1, .int p0)]) hx hb dX6_soonest_16 rfl hl (by decide) rfl (fun ls hln => ?_)
    replace hl := hln
    clear hln
    refine lv_iconst (v := 0) hx hb dX6_soonest_17 (by decide) ?_
    refine lv_istore (lv' := [(4, .int 0), (3, .int 0), (2, .int 0), (0, .ref (ad 0)), (1, .int p0)]) hx hb dX6_soonest_18 hl (by decide) rfl (fun ls hln => ?_)
    replace hl := hln
    clear hln
    exact L20 _ _ _ _ _ h _ _ hW _ (lv_sub hl [3, 4, 2, 1, 0] rfl)
  · replace h := tp cq h
    refine lv_bipush (v := (-2)) hx hb dX6_soonest_10 (by decide) ?_
    exact r_iretP hC hr hlocks h hW dX6_soonest_12
set_option maxHeartbeats 4000000 in
set_option maxRecDepth 100000 in
theorem c_X6_state (l : Launch) (D : va_G) (cy : ClassId × ClassId) (ad : Nat → Nat) (A : Nat → Prop) (p0 : Int32) (p1 : Int32) (σ : Hp) (r : Int32) (h : t_X6_state p0 p1 σ = some r) : Ci l yX6_state us_X6_state ({ frames := 3, cells := 0, slots := 0, locals := 65 } : Room) D cy 55 shX ad A [.ref (ad 0), .int p0, .int p1] σ r σ := by
  unfold t_X6_state at h
  refine Met.ofW (cc := cX6_state) (maxL := 3) (ret := (some .int)) (by decide) rfl ?_
  intro p e s m args below meth c s₁ B hml hv
  obtain ⟨rfl, hP, hK, hD, hA, hN⟩ := hv
  have hx := B.exec
  have hb := B.bytes
  have hr := B.returns
  have hlocks := B.notSynchronized
  have hts : ∀ w ∈ wsU, w.before _ s = true := fun w h => atoms_spec (ws := us_X6_state) B.pre w (List.mem_cons_of_mem _ h)
  have hown : s.vm.findClass RX6 = some m.cls := findClass_of_methodNamed B.named
  have hC : Cx p m c cX6_state 3 s _ wsU RX6 D cy := ⟨⟨hx, hb, hml, hown, hts⟩, hK, hN⟩
  have hW : Wd D cy 55 shX ad A s.heap σ s.heap [] := ⟨hP, hD, va_S.rf, hA⟩
  have hl := lv_entry ([.ref (ad 0), .int p0, .int p1]) (n := 3) (Nat.le_of_ble_eq_true rfl)
  rw [lg_entry_eq]
  generalize (lg_sl ([.ref (ad 0), .int p0, .int p1]) ++ List.replicate (3 - (lg_sl ([.ref (ad 0), .int p0, .int p1])).length) Slot.unset).toArray = ls at hl ⊢
  have hl : lv_has ls 3 [(0, .ref (ad 0)), (1, .int p0), (2, .int p1)] := hl
  refine lv_aload_n hx hb dX6_state_0 rfl (lv_at hl 0 rfl) ?_
  refine r_getr hC hW 0 (Nat.le_of_ble_eq_true rfl) rfl rfl rfl (by decide) inUX6 (hts _ wd_175) rfl dX6_state_1 ?_
  refine r_getrN hC hW 0 (Nat.le_of_ble_eq_true rfl) rfl rfl rfl (by decide) inUX4 (hC.2.2.use nf_RX6_50 rfl) rfl dX6_state_4 ?_
  refine lv_iload_n hx hb dX6_state_7 rfl (lv_at hl 1 rfl) ?_
  replace h := bd h
  obtain ⟨r1, hc, h⟩ := h
  refine r_calli hW (va_runVN (As := [.int p0]) (rest := []) hC.1 (c_X0_has l D cy ad A 2 (c_coop 2 rfl) _ _ _ hc) ⟨va_cnB 1 hts (gdN wd_202) rfl rfl rfl (NL.at hC.2.2 nw_RX6_77 rfl) (hts _ wd_12) (by decide +kernel) ⟨Nat.le_of_ble_eq_true rfl, Nat.le_of_ble_eq_true rfl⟩, hts _ wd_203, hts _ wd_204⟩ (r_preV hC hW (Nat.le_of_ble_eq_true rfl) rfl rfl) rfl rfl hl.1 rfl (lv_room (Nat.le_of_ble_eq_true rfl)) dX6_state_8 ⟨Nat.zero_le _, Nat.zero_le _⟩) (fun H locs hWn => ?_)
  replace hW := hWn
  clear hWn hc
  refine lv_if_ne (tgt := 16) hx hb dX6_state_11 (by decide) (fun cq => ?_) (fun cq => ?_)
  · replace h := tn cq h
    refine lv_iload_n hx hb dX6_state_16 rfl (lv_at hl 2 rfl) ?_
    refine lv_iconst (v := 0) hx hb dX6_state_17 (by decide) ?_
    refine lv_iconst (v := 2) hx hb dX6_state_18 (by decide) ?_
    replace h := bd h
    obtain ⟨r2, hc, h⟩ := h
    refine r_calli hW (va_runS (As := [.int p1, .int 0, .int 2]) (rest := []) hC.1 (c_X6_isWithin l D cy ad A _ _ _ _ _ hc) (va_cwS 3 hts (gdS wd_101 wd_102 wd_5 wd_100) rfl rfl rfl (by decide +kernel) ⟨Nat.le_of_ble_eq_true rfl, Nat.le_of_ble_eq_true rfl⟩) (r_preS hC hW) rfl rfl hl.1 rfl (lv_room (Nat.le_of_ble_eq_true rfl)) dX6_state_19 ⟨Nat.zero_le _, Nat.zero_le _⟩) (fun H locs hWn => ?_)
    replace hW := hWn
    clear hWn hc
    refine lv_if_ne (tgt := 28) hx hb dX6_state_22 (by decide) (fun cq => ?_) (fun cq => ?_)
    · replace h := tn cq h
      refine lv_aload_n hx hb dX6_state_28 rfl (lv_at hl 0 rfl) ?_
      refine r_getr hC hW 0 (Nat.le_of_ble_eq_true rfl) rfl rfl rfl (by decide) inUX6 (hts _ wd_175) rfl dX6_state_29 ?_
      refine r_getrN hC hW 0 (Nat.le_of_ble_eq_true rfl) rfl rfl rfl (by decide) inUX4 (hC.2.2.use nf_RX6_50 rfl) rfl dX6_state_32 ?_
      refine lv_iload_n hx hb dX6_state_35 rfl (lv_at hl 1 rfl) ?_
      refine lv_iload_n hx hb dX6_state_36 rfl (lv_at hl 2 rfl) ?_
      replace h := bd h
      obtain ⟨r3, hc, h⟩ := h
      refine r_calli hW (va_runVN (As := [.int p0, .int p1]) (rest := []) hC.1 (c_X0_condition l D cy ad A 2 (c_coop 2 rfl) _ _ _ _ hc) ⟨va_cnB 2 hts (gdN wd_209) rfl rfl rfl (NL.at hC.2.2 nw_RX6_148 rfl) (hts _ wd_12) (by decide +kernel) ⟨Nat.le_of_ble_eq_true rfl, Nat.le_of_ble_eq_true rfl⟩, hts _ wd_210, hts _ wd_211⟩ (r_preV hC hW (Nat.le_of_ble_eq_true rfl) rfl rfl) rfl rfl hl.1 rfl (lv_room (Nat.le_of_ble_eq_true rfl)) dX6_state_37 ⟨Nat.zero_le _, Nat.zero_le _⟩) (fun H locs hWn => ?_)
      replace hW := hWn
      clear hWn hc
      exact r_iretP hC hr hlocks h hW dX6_state_40
    · replace h := tp cq h
      refine lv_bipush (v := (-2)) hx hb dX6_state_25 (by decide) ?_
      exact r_iretP hC hr hlocks h hW dX6_state_27
  · replace h := tp cq h
    refine lv_iconst (v := (-1)) hx hb dX6_state_14 (by decide) ?_
    exact r_iretP hC hr hlocks h hW dX6_state_15
set_option maxHeartbeats 4000000 in
set_option maxRecDepth 100000 in
theorem c_X6_stops (l : Launch) (D : va_G) (cy : ClassId × ClassId) (ad : Nat → Nat) (A : Nat → Prop) (N : Nat) (p0 : Int32) (σ : Hp) (r : Int32) (σ' : Hp) (h : t_X6_stops N p0 σ = some (r, σ')) : Ci l yX6_stops us_X6_stops ({ frames := 6, cells := 0, slots := 0, locals := 137 } : Room) D cy 55 shX ad A [.ref (ad 0), .int p0] σ r σ' := by
  unfold t_X6_stops at h
  refine Met.ofW (cc := cX6_stops) (maxL := 4) (ret := (some .int)) (by decide) rfl ?_
  intro p e s m args below meth c s₁ B hml hv
  obtain ⟨rfl, hP, hK, hD, hA, hN⟩ := hv
  have hx := B.exec
  have hb := B.bytes
  have hr := B.returns
  have hlocks := B.notSynchronized
  have hts : ∀ w ∈ wsU, w.before _ s = true := fun w h => atoms_spec (ws := us_X6_stops) B.pre w (List.mem_cons_of_mem _ h)
  have hown : s.vm.findClass RX6 = some m.cls := findClass_of_methodNamed B.named
  have hC : Cx p m c cX6_stops 4 s _ wsU RX6 D cy := ⟨⟨hx, hb, hml, hown, hts⟩, hK, hN⟩
  have hW : Wd D cy 55 shX ad A s.heap σ s.heap [] := ⟨hP, hD, va_S.rf, hA⟩
  have hl := lv_entry ([.ref (ad 0), .int p0]) (n := 4) (Nat.le_of_ble_eq_true rfl)
  rw [lg_entry_eq]
  generalize (lg_sl ([.ref (ad 0), .int p0]) ++ List.replicate (4 - (lg_sl ([.ref (ad 0), .int p0])).length) Slot.unset).toArray = ls at hl ⊢
  have hl : lv_has ls 4 [(0, .ref (ad 0)), (1, .int p0)] := hl
  refine lv_iload_n hx hb dX6_stops_0 rfl (lv_at hl 1 rfl) ?_
  refine lv_iconst (v := 0) hx hb dX6_stops_1 (by decide) ?_
  refine lv_iconst (v := 1) hx hb dX6_stops_2 (by decide) ?_
  replace h := bd h
  obtain ⟨r1, hc, h⟩ := h
  refine r_calli hW (va_runS (As := [.int p0, .int 0, .int 1]) (rest := []) hC.1 (c_X6_isWithin l D cy ad A _ _ _ _ _ hc) (va_cwS 3 hts (gdS wd_101 wd_102 wd_5 wd_100) rfl rfl rfl (by decide +kernel) ⟨Nat.le_of_ble_eq_true rfl, Nat.le_of_ble_eq_true rfl⟩) (r_preS hC hW) rfl rfl hl.1 rfl (lv_room (Nat.le_of_ble_eq_true rfl)) dX6_stops_3 ⟨Nat.zero_le _, Nat.zero_le _⟩) (fun H locs hWn => ?_)
  replace hW := hWn
  clear hWn hc
  refine lv_if_ne (tgt := 12) hx hb dX6_stops_6 (by decide) (fun cq => ?_) (fun cq => ?_)
  · replace h := tn cq h
    refine lv_aload_n hx hb dX6_stops_12 rfl (lv_at hl 0 rfl) ?_
    refine r_getr hC hW 4 (Nat.le_of_ble_eq_true rfl) rfl rfl rfl (by decide) inUX6 (hts _ wd_205) rfl dX6_stops_13 ?_
    refine lv_aload_n hx hb dX6_stops_16 rfl (lv_at hl 0 rfl) ?_
    refine r_getr hC hW 3 (Nat.le_of_ble_eq_true rfl) rfl rfl rfl (by decide) inUX6 (hts _ wd_182) rfl dX6_stops_17 ?_
    refine lv_aload_n hx hb dX6_stops_20 rfl (lv_at hl 0 rfl) ?_
    refine r_getr hC hW 0 (Nat.le_of_ble_eq_true rfl) rfl rfl rfl (by decide) inUX6 (hts _ wd_175) rfl dX6_stops_21 ?_
    refine r_getrN hC hW 0 (Nat.le_of_ble_eq_true rfl) rfl rfl rfl (by decide) inUX4 (hC.2.2.use nf_RX6_50 rfl) rfl dX6_stops_24 ?_
    replace h := ob h
    obtain ⟨r2, σ3, hc, h⟩ := h
    refine r_calli hW (va_runVN (As := [.ref (ad 31), .ref (ad 2)]) (rest := []) hC.1 (c_X5_run l D cy ad A N _ _ _ hc) ⟨va_cnB 2 hts (gdN wd_206) rfl rfl rfl (NL.at hC.2.2 nw_RX6_131 rfl) (hts _ wd_159) (by decide +kernel) ⟨Nat.le_of_ble_eq_true rfl, Nat.le_of_ble_eq_true rfl⟩, hts _ wd_207, hts _ wd_208⟩ (r_preV hC hW (Nat.le_of_ble_eq_true rfl) rfl rfl) rfl rfl hl.1 rfl (lv_room (Nat.le_of_ble_eq_true rfl)) dX6_stops_27 ⟨Nat.zero_le _, Nat.zero_le _⟩) (fun H locs hWn => ?_)
    replace hW := hWn
    clear hWn hc
    refine lv_istore_n (lv' := [(2, .int r2), (0, .ref (ad 0)), (1, .int p0)]) hx hb dX6_stops_30 rfl hl (by decide) rfl (fun ls hln => ?_)
    replace hl := hln
    clear hln
    refine lv_iload_n hx hb dX6_stops_31 rfl (lv_at hl 0 rfl) ?_
    refine lv_if_eq (tgt := 37) hx hb dX6_stops_32 (by decide) (fun cq => ?_) (fun cq => ?_)
    · replace h := tp cq h
      refine lv_aload_n hx hb dX6_stops_37 rfl (lv_at hl 1 rfl) ?_
      refine r_getr hC hW 4 (Nat.le_of_ble_eq_true rfl) rfl rfl rfl (by decide) inUX6 (hts _ wd_205) rfl dX6_stops_38 ?_
      refine r_getrN hC hW 0 (Nat.le_of_ble_eq_true rfl) rfl rfl rfl (by decide) inUX5 (hC.2.2.use nf_RX6_147 rfl) rfl dX6_stops_41 ?_
      replace h := bd h
      obtain ⟨r4, hc, h⟩ := h
      refine r_calli hW (va_runVN (As := []) (rest := []) hC.1 (c_X0_stopPlace l D cy ad A N 34 (c_coop 34 rfl) _ _ hc) ⟨va_cnB 0 hts (gdN wd_286) rfl rfl rfl (NL.at hC.2.2 nw_RX6_158 rfl) (hts _ wd_12) (by decide +kernel) ⟨Nat.le_of_ble_eq_true rfl, Nat.le_of_ble_eq_true rfl⟩, hts _ wd_287, hts _ wd_288⟩ (r_preV hC hW (Nat.le_of_ble_eq_true rfl) rfl rfl) rfl rfl hl.1 rfl (lv_room (Nat.le_of_ble_eq_true rfl)) dX6_stops_44 ⟨Nat.zero_le _, Nat.zero_le _⟩) (fun H locs hWn => ?_)
      replace hW := hWn
      clear hWn hc
      refine lv_istore_n (lv' := [(3, .int r4), (2, .int r2), (0, .ref (ad 0)), (1, .int p0)]) hx hb dX6_stops_47 rfl hl (by decide) rfl (fun ls hln => ?_)
      replace hl := hln
      clear hln
      refine lv_iload_n hx hb dX6_stops_48 rfl (lv_at hl 3 rfl) ?_
      refine lv_iconst (v := 1) hx hb dX6_stops_49 (by decide) ?_
      refine lv_icmp_ne (tgt := 65) hx hb dX6_stops_50 (by decide) (fun cq => ?_) (fun cq => ?_)
      · replace h := tn cq h
        refine lv_iload_n hx hb dX6_stops_65 rfl (lv_at hl 0 rfl) ?_
        refine lv_aload_n hx hb dX6_stops_66 rfl (lv_at hl 2 rfl) ?_
        refine r_getr hC hW 4 (Nat.le_of_ble_eq_true rfl) rfl rfl rfl (by decide) inUX6 (hts _ wd_205) rfl dX6_stops_67 ?_
        refine r_getrN hC hW 0 (Nat.le_of_ble_eq_true rfl) rfl rfl rfl (by decide) inUX5 (hC.2.2.use nf_RX6_147 rfl) rfl dX6_stops_70 ?_
        refine r_getiN hC hW 0 (Nat.le_of_ble_eq_true rfl) rfl rfl rfl (by decide) inUX0 (hC.2.2.use nf_RX6_61 rfl) rfl dX6_stops_73 ?_
        refine lv_icmp_ge (tgt := 96) hx hb dX6_stops_76 (by decide) (fun cq => ?_) (fun cq => ?_)
        · replace h := tp cq h
          refine lv_bipush (v := (-6)) hx hb dX6_stops_96 (by decide) ?_
          exact r_iretW hC hr hlocks h hW dX6_stops_98
        · replace h := tn cq h
          refine lv_aload_n hx hb dX6_stops_79 rfl (lv_at hl 2 rfl) ?_
          refine r_getr hC hW 4 (Nat.le_of_ble_eq_true rfl) rfl rfl rfl (by decide) inUX6 (hts _ wd_205) rfl dX6_stops_80 ?_
          refine r_getrN hC hW 0 (Nat.le_of_ble_eq_true rfl) rfl rfl rfl (by decide) inUX5 (hC.2.2.use nf_RX6_147 rfl) rfl dX6_stops_83 ?_
          refine r_getrN hC hW 2 (Nat.le_of_ble_eq_true rfl) rfl rfl rfl (by decide) inUX0 (hC.2.2.use nf_RX6_120 rfl) rfl dX6_stops_86 ?_
          refine lv_iload_n hx hb dX6_stops_89 rfl (lv_at hl 0 rfl) ?_
          replace h := bd h
          obtain ⟨r5, hc, h⟩ := h
          refine r_calli hW (va_runS (As := [.ref (ad 35), .int r4]) (rest := []) hC.1 (c_X6_at l D cy ad A 35 7 ⟨Nat.le_of_ble_eq_true rfl, rfl⟩ _ _ _ hc) (va_cwS 2 hts (gdS wd_212 wd_6 wd_5 wd_4) rfl rfl rfl (by decide +kernel) ⟨Nat.le_of_ble_eq_true rfl, Nat.le_of_ble_eq_true rfl⟩) (r_preS hC hW) rfl rfl hl.1 rfl (lv_room (Nat.le_of_ble_eq_true rfl)) dX6_stops_90 ⟨Nat.zero_le _, Nat.zero_le _⟩) (fun H locs hWn => ?_)
          replace hW := hWn
          clear hWn hc
          refine lv_goto (tgt := 98) hx hb dX6_stops_93 (by decide) ?_
          exact r_iretW hC hr hlocks h hW dX6_stops_98
      · replace h := tp cq h
        refine lv_aload_n hx hb dX6_stops_53 rfl (lv_at hl 2 rfl) ?_
        refine r_getr hC hW 4 (Nat.le_of_ble_eq_true rfl) rfl rfl rfl (by decide) inUX6 (hts _ wd_205) rfl dX6_stops_54 ?_
        refine r_getrN hC hW 0 (Nat.le_of_ble_eq_true rfl) rfl rfl rfl (by decide) inUX5 (hC.2.2.use nf_RX6_147 rfl) rfl dX6_stops_57 ?_
        refine lv_iload_n hx hb dX6_stops_60 rfl (lv_at hl 0 rfl) ?_
        replace h := bd h
        obtain ⟨r6, hc, h⟩ := h
        refine r_calli hW (va_runVN (As := [.int r4]) (rest := []) hC.1 (c_X0_warmBehind l D cy ad A N 34 (c_coop 34 rfl) _ _ _ hc) ⟨va_cnB 1 hts (gdN wd_289) rfl rfl rfl (NL.at hC.2.2 nw_RX6_162 rfl) (hts _ wd_12) (by decide +kernel) ⟨Nat.le_of_ble_eq_true rfl, Nat.le_of_ble_eq_true rfl⟩, hts _ wd_290, hts _ wd_291⟩ (r_preV hC hW (Nat.le_of_ble_eq_true rfl) rfl rfl) rfl rfl hl.1 rfl (lv_room (Nat.le_of_ble_eq_true rfl)) dX6_stops_61 ⟨Nat.zero_le _, Nat.zero_le _⟩) (fun H locs hWn => ?_)
        replace hW := hWn
        clear hWn hc
        exact r_iretW hC hr hlocks h hW dX6_stops_64
    · replace h := tn cq h
      refine lv_iload_n hx hb dX6_stops_35 rfl (lv_at hl 0 rfl) ?_
      exact r_iretW hC hr hlocks h hW dX6_stops_36
  · replace h := tp cq h
    refine lv_bipush (v := (-2)) hx hb dX6_stops_9 (by decide) ?_
    exact r_iretW hC hr hlocks h hW dX6_stops_11
set_option maxHeartbeats 4000000 in
set_option maxRecDepth 100000 in
theorem c_X6_stove (l : Launch) (D : va_G) (cy : ClassId × ClassId) (ad : Nat → Nat) (A : Nat → Prop) (p0 : Int32) (p1 : Int32) (σ : Hp) (r : Int32) (σ' : Hp) (h : t_X6_stove p0 p1 σ = some (r, σ')) : Ci l yX6_stove us_X6_stove ({ frames := 2, cells := 0, slots := 0, locals := 41 } : Room) D cy 55 shX ad A [.ref (ad 0), .int p0, .int p1] σ r σ' := by
  unfold t_X6_stove at h
  refine Met.ofW (cc := cX6_stove) (maxL := 3) (ret := (some .int)) (by decide) rfl ?_
  intro p e s m args below meth c s₁ B hml hv
  obtain ⟨rfl, hP, hK, hD, hA, hN⟩ := hv
  have hx := B.exec
  have hb := B.bytes
  have hr := B.returns
  have hlocks := B.notSynchronized
  have hts : ∀ w ∈ wsU, w.before _ s = true := fun w h => atoms_spec (ws := us_X6_stove) B.pre w (List.mem_cons_of_mem _ h)
  have hown : s.vm.findClass RX6 = some m.cls := findClass_of_methodNamed B.named
  have hC : Cx p m c cX6_stove 3 s _ wsU RX6 D cy := ⟨⟨hx, hb, hml, hown, hts⟩, hK, hN⟩
  have hW : Wd D cy 55 shX ad A s.heap σ s.heap [] := ⟨hP, hD, va_S.rf, hA⟩
  have hl := lv_entry ([.ref (ad 0), .int p0, .int p1]) (n := 3) (Nat.le_of_ble_eq_true rfl)
  rw [lg_entry_eq]
  generalize (lg_sl ([.ref (ad 0), .int p0, .int p1]) ++ List.replicate (3 - (lg_sl ([.ref (ad 0), .int p0, .int p1])).length) Slot.unset).toArray = ls at hl ⊢
  have hl : lv_has ls 3 [(0, .ref (ad 0)), (1, .int p0), (2, .int p1)] := hl
  have J40 : ∀ (σ : Hp), t_X6_stove_40  σ = some (r, σ') → ∀ (H : Heap) (locs : List Loc), Wd D cy 55 shX ad A s.heap σ H locs → ∀ ls : Array Slot, lv_has ls 3 [(0, .ref (ad 0))] → Gi p l e us_X6_stove ({ frames := 2, cells := 0, slots := 0, locals := 41 } : Room) s m [.ref (ad 0), .int p0, .int p1] below meth c D cy 55 shX ad A r σ' H locs (F0 m 40 ls []) := by
    intro  σ h H locs hW ls hl
    unfold t_X6_stove_40 at h
    refine lv_aload_n hx hb dX6_stove_40 rfl (lv_at hl 0 rfl) ?_
    refine r_getr hC hW 0 (Nat.le_of_ble_eq_true rfl) rfl rfl rfl (by decide) inUX6 (hts _ wd_175) rfl dX6_stove_41 ?_
    refine r_getrN hC hW 0 (Nat.le_of_ble_eq_true rfl) rfl rfl rfl (by decide) inUX4 (hC.2.2.use nf_RX6_50 rfl) rfl dX6_stove_44 ?_
    refine r_getiN hC hW 1 (Nat.le_of_ble_eq_true rfl) rfl rfl rfl (by decide) inUX0 (hC.2.2.use nf_RX6_96 rfl) rfl dX6_stove_47 ?_
    exact r_iretW hC hr hlocks h hW dX6_stove_50
  refine lv_iload_n hx hb dX6_stove_0 rfl (lv_at hl 1 rfl) ?_
  refine lv_iconst (v := 0) hx hb dX6_stove_1 (by decide) ?_
  refine lv_iconst (v := 5) hx hb dX6_stove_2 (by decide) ?_
  replace h := bd h
  obtain ⟨r1, hc, h⟩ := h
  refine r_calli hW (va_runS (As := [.int p0, .int 0, .int 5]) (rest := []) hC.1 (c_X6_isWithin l D cy ad A _ _ _ _ _ hc) (va_cwS 3 hts (gdS wd_101 wd_102 wd_5 wd_100) rfl rfl rfl (by decide +kernel) ⟨Nat.le_of_ble_eq_true rfl, Nat.le_of_ble_eq_true rfl⟩) (r_preS hC hW) rfl rfl hl.1 rfl (lv_room (Nat.le_of_ble_eq_true rfl)) dX6_stove_3 ⟨Nat.zero_le _, Nat.zero_le _⟩) (fun H locs hWn => ?_)
  replace hW := hWn
  clear hWn hc
  refine lv_if_ne (tgt := 11) hx hb dX6_stove_6 (by decide) (fun cq => ?_) (fun cq => ?_)
  · replace h := tn cq h
    refine lv_aload_n hx hb dX6_stove_11 rfl (lv_at hl 0 rfl) ?_
    refine r_getr hC hW 0 (Nat.le_of_ble_eq_true rfl) rfl rfl rfl (by decide) inUX6 (hts _ wd_175) rfl dX6_stove_12 ?_
    refine r_getrN hC hW 0 (Nat.le_of_ble_eq_true rfl) rfl rfl rfl (by decide) inUX4 (hC.2.2.use nf_RX6_50 rfl) rfl dX6_stove_15 ?_
    refine r_getiN hC hW 1 (Nat.le_of_ble_eq_true rfl) rfl rfl rfl (by decide) inUX0 (hC.2.2.use nf_RX6_96 rfl) rfl dX6_stove_18 ?_
    refine lv_iload_n hx hb dX6_stove_21 rfl (lv_at hl 1 rfl) ?_
    replace h := bd h
    obtain ⟨r2, hc, h⟩ := h
    refine r_calli hW (va_runS (As := [.int (σ 2 1), .int p0]) (rest := []) hC.1 (c_X6_hasBit l D cy ad A _ _ _ _ hc) (va_cwS 2 hts (gdS wd_213 wd_32 wd_5 wd_31) rfl rfl rfl (by decide +kernel) ⟨Nat.le_of_ble_eq_true rfl, Nat.le_of_ble_eq_true rfl⟩) (r_preS hC hW) rfl rfl hl.1 rfl (lv_room (Nat.le_of_ble_eq_true rfl)) dX6_stove_22 ⟨Nat.zero_le _, Nat.zero_le _⟩) (fun H locs hWn => ?_)
    replace hW := hWn
    clear hWn hc
    refine lv_iload_n hx hb dX6_stove_25 rfl (lv_at hl 2 rfl) ?_
    refine lv_icmp_eq (tgt := 40) hx hb dX6_stove_26 (by decide) (fun cq => ?_) (fun cq => ?_)
    · replace h := tp cq h
      exact J40 _ h _ _ hW _ (lv_sub hl [0] rfl)
    · replace h := tn cq h
      refine lv_aload_n hx hb dX6_stove_29 rfl (lv_at hl 0 rfl) ?_
      refine r_getr hC hW 0 (Nat.le_of_ble_eq_true rfl) rfl rfl rfl (by decide) inUX6 (hts _ wd_175) rfl dX6_stove_30 ?_
      refine r_getrN hC hW 0 (Nat.le_of_ble_eq_true rfl) rfl rfl rfl (by decide) inUX4 (hC.2.2.use nf_RX6_50 rfl) rfl dX6_stove_33 ?_
      refine lv_iload_n hx hb dX6_stove_36 rfl (lv_at hl 1 rfl) ?_
      replace h := bd h
      obtain ⟨σ3, hc, h⟩ := h
      refine r_callv hW (va_runVN (As := [.int p0]) (rest := []) hC.1 (c_X0_turnStove l D cy ad A 2 (c_coop 2 rfl) _ _ _ hc) ⟨va_cnB 1 hts (gdN wd_109) rfl rfl rfl (NL.at hC.2.2 nw_RX6_102 rfl) (hts _ wd_12) (by decide +kernel) ⟨Nat.le_of_ble_eq_true rfl, Nat.le_of_ble_eq_true rfl⟩, hts _ wd_110, hts _ wd_111⟩ (r_preV hC hW (Nat.le_of_ble_eq_true rfl) rfl rfl) rfl rfl hl.1 rfl (lv_room (Nat.le_of_ble_eq_true rfl)) dX6_stove_37 ⟨Nat.zero_le _, Nat.zero_le _⟩) (fun H locs hWn => ?_)
      replace hW := hWn
      clear hWn hc
      exact J40 _ h _ _ hW _ (lv_sub hl [0] rfl)
  · replace h := tp cq h
    refine lv_iconst (v := (-1)) hx hb dX6_stove_9 (by decide) ?_
    exact r_iretW hC hr hlocks h hW dX6_stove_10
