set_option maxHeartbeats 4000000 in
set_option maxRecDepth 100000 in
theorem c_J6_bitCount_0f7a4 (l : Launch) (D : va_G) (cy : ClassId × ClassId) (ad : Nat → Nat) (A : Nat → Prop) (p0 : Int32) (σ : Hp) (r : Int32) (h : t_J6_bitCount_0f7a4 p0 = some r) : Ci l yJ6_bitCount_0f7a4 us_J6_bitCount_0f7a4 ({ frames := 0, cells := 0, slots := 0, locals := 0 } : Room) D cy 55 shX ad A [.int p0] σ r σ := by
  unfold t_J6_bitCount_0f7a4 at h
  refine Met.ofW (cc := cJ6_bitCount_0f7a4) (maxL := 1) (ret := (some .int)) (by decide) rfl ?_
  intro p e s m args below meth c s₁ B hml hv
  obtain ⟨rfl, hP, hK, hD, hA, hN⟩ := hv
  have hx := B.exec
  have hb := B.bytes
  have hr := B.returns
  have hlocks := B.notSynchronized
  have hts : ∀ w ∈ wsU, w.before _ s = true := fun w h => atoms_spec (ws := us_J6_bitCount_0f7a4) B.pre w (List.mem_cons_of_mem _ h)
  have hown : s.vm.findClass RJ6 = some m.cls := findClass_of_methodNamed B.named
  have hC : Cx p m c cJ6_bitCount_0f7a4 1 s _ wsU RJ6 D cy := ⟨⟨hx, hb, hml, hown, hts⟩, hK, hN⟩
  have hW : Wd D cy 55 shX ad A s.heap σ s.heap [] := ⟨hP, hD, va_S.rf, hA⟩
  have hl := lv_entry ([.int p0]) (n := 1) (Nat.le_of_ble_eq_true rfl)
  rw [lg_entry_eq]
  generalize (lg_sl ([.int p0]) ++ List.replicate (1 - (lg_sl ([.int p0])).length) Slot.unset).toArray = ls at hl ⊢
  have hl : lv_has ls 1 [(0, .int p0)] := hl
  refine lv_iload_n hx hb dJ6_bitCount_0f7a4_0 rfl (lv_at hl 0 rfl) ?_
  refine lv_iload_n hx hb dJ6_bitCount_0f7a4_1 rfl (lv_at hl 0 rfl) ?_
  refine lv_iconst (v := 1) hx hb dJ6_bitCount_0f7a4_2 (by decide) ?_
  refine lv_iushr hx hb dJ6_bitCount_0f7a4_3 rfl ?_
  refine lv_ldcw hx hb hown (hts _ wd_0) dJ6_bitCount_0f7a4_4 ?_
  refine lv_iand hx hb dJ6_bitCount_0f7a4_7 ?_
  refine lv_isub hx hb dJ6_bitCount_0f7a4_8 ?_
  replace h := bx h
  obtain ⟨x1, ex1, h⟩ := h
  refine tope ex1 ?_
  clear ex1
  refine lv_istore_n (lv' := [(0, .int x1)]) hx hb dJ6_bitCount_0f7a4_9 rfl hl (by decide) rfl (fun ls hln => ?_)
  replace hl := hln
  clear hln
  refine lv_iload_n hx hb dJ6_bitCount_0f7a4_10 rfl (lv_at hl 0 rfl) ?_
  refine lv_ldcw hx hb hown (hts _ wd_1) dJ6_bitCount_0f7a4_11 ?_
  refine lv_iand hx hb dJ6_bitCount_0f7a4_14 ?_
  refine lv_iload_n hx hb dJ6_bitCount_0f7a4_15 rfl (lv_at hl 0 rfl) ?_
  refine lv_iconst (v := 2) hx hb dJ6_bitCount_0f7a4_16 (by decide) ?_
  refine lv_iushr hx hb dJ6_bitCount_0f7a4_17 rfl ?_
  refine lv_ldcw hx hb hown (hts _ wd_1) dJ6_bitCount_0f7a4_18 ?_
  refine lv_iand hx hb dJ6_bitCount_0f7a4_21 ?_
  refine lv_iadd hx hb dJ6_bitCount_0f7a4_22 ?_
  replace h := bx h
  obtain ⟨x2, ex2, h⟩ := h
  refine tope ex2 ?_
  clear ex2
  refine lv_istore_n (lv' := [(0, .int x2)]) hx hb dJ6_bitCount_0f7a4_23 rfl hl (by decide) rfl (fun ls hln => ?_)
  replace hl := hln
  clear hln
  refine lv_iload_n hx hb dJ6_bitCount_0f7a4_24 rfl (lv_at hl 0 rfl) ?_
  refine lv_iload_n hx hb dJ6_bitCount_0f7a4_25 rfl (lv_at hl 0 rfl) ?_
  refine lv_iconst (v := 4) hx hb dJ6_bitCount_0f7a4_26 (by decide) ?_
  refine lv_iushr hx hb dJ6_bitCount_0f7a4_27 rfl ?_
  refine lv_iadd hx hb dJ6_bitCount_0f7a4_28 ?_
  refine lv_ldcw hx hb hown (hts _ wd_2) dJ6_bitCount_0f7a4_29 ?_
  refine lv_iand hx hb dJ6_bitCount_0f7a4_32 ?_
  replace h := bx h
  obtain ⟨x3, ex3, h⟩ := h
  refine tope ex3 ?_
  clear ex3
  refine lv_istore_n (lv' := [(0, .int x3)]) hx hb dJ6_bitCount_0f7a4_33 rfl hl (by decide) rfl (fun ls hln => ?_)
  replace hl := hln
  clear hln
  refine lv_iload_n hx hb dJ6_bitCount_0f7a4_34 rfl (lv_at hl 0 rfl) ?_
  refine lv_iload_n hx hb dJ6_bitCount_0f7a4_35 rfl (lv_at hl 0 rfl) ?_
  refine lv_bipush (v := 8) hx hb dJ6_bitCount_0f7a4_36 (by decide) ?_
  refine lv_iushr hx hb dJ6_bitCount_0f7a4_38 rfl ?_
  refine lv_iadd hx hb dJ6_bitCount_0f7a4_39 ?_
  replace h := bx h
  obtain ⟨x4, ex4, h⟩ := h
  refine tope ex4 ?_
  clear ex4
  refine lv_istore_n (lv' := [(0, .int x4)]) hx hb dJ6_bitCount_0f7a4_40 rfl hl (by decide) rfl (fun ls hln => ?_)
  replace hl := hln
  clear hln
  refine lv_iload_n hx hb dJ6_bitCount_0f7a4_41 rfl (lv_at hl 0 rfl) ?_
  refine lv_iload_n hx hb dJ6_bitCount_0f7a4_42 rfl (lv_at hl 0 rfl) ?_
  refine lv_bipush (v := 16) hx hb dJ6_bitCount_0f7a4_43 (by decide) ?_
  refine lv_iushr hx hb dJ6_bitCount_0f7a4_45 rfl ?_
  refine lv_iadd hx hb dJ6_bitCount_0f7a4_46 ?_
  replace h := bx h
  obtain ⟨x5, ex5, h⟩ := h
  refine tope ex5 ?_
  clear ex5
  refine lv_istore_n (lv' := [(0, .int x5)]) hx hb dJ6_bitCount_0f7a4_47 rfl hl (by decide) rfl (fun ls hln => ?_)
  replace hl := hln
  clear hln
  refine lv_iload_n hx hb dJ6_bitCount_0f7a4_48 rfl (lv_at hl 0 rfl) ?_
  refine lv_bipush (v := 63) hx hb dJ6_bitCount_0f7a4_49 (by decide) ?_
  refine lv_iand hx hb dJ6_bitCount_0f7a4_51 ?_
  exact r_iretP hC hr hlocks h hW dJ6_bitCount_0f7a4_52
set_option maxHeartbeats 4000000 in
set_option maxRecDepth 100000 in
theorem c_X6_at (l : Launch) (D : va_G) (cy : ClassId × ClassId) (ad : Nat → Nat) (A : Nat → Prop) (a : Nat) (la : Nat) (ha : isArr a la) (p1 : Int32) (σ : Hp) (r : Int32) (h : t_X6_at a la p1 σ = some r) : Ci l yX6_at us_X6_at ({ frames := 0, cells := 0, slots := 0, locals := 0 } : Room) D cy 55 shX ad A [.ref (ad a), .int p1] σ r σ := by
  unfold t_X6_at at h
  refine Met.ofW (cc := cX6_at) (maxL := 2) (ret := (some .int)) (by decide) rfl ?_
  intro p e s m args below meth c s₁ B hml hv
  obtain ⟨rfl, hP, hK, hD, hA, hN⟩ := hv
  have hx := B.exec
  have hb := B.bytes
  have hr := B.returns
  have hlocks := B.notSynchronized
  have hts : ∀ w ∈ wsU, w.before _ s = true := fun w h => atoms_spec (ws := us_X6_at) B.pre w (List.mem_cons_of_mem _ h)
  have hown : s.vm.findClass RX6 = some m.cls := findClass_of_methodNamed B.named
  have hC : Cx p m c cX6_at 2 s _ wsU RX6 D cy := ⟨⟨hx, hb, hml, hown, hts⟩, hK, hN⟩
  have hW : Wd D cy 55 shX ad A s.heap σ s.heap [] := ⟨hP, hD, va_S.rf, hA⟩
  have hl := lv_entry ([.ref (ad a), .int p1]) (n := 2) (Nat.le_of_ble_eq_true rfl)
  rw [lg_entry_eq]
  generalize (lg_sl ([.ref (ad a), .int p1]) ++ List.replicate (2 - (lg_sl ([.ref (ad a), .int p1])).length) Slot.unset).toArray = ls at hl ⊢
  have hl : lv_has ls 2 [(0, .ref (ad a)), (1, .int p1)] := hl
  have J20 : t_X6_at_20 a la  σ = some r → ∀ (H : Heap) (locs : List Loc), Wd D cy 55 shX ad A s.heap σ H locs → ∀ ls : Array Slot, lv_has ls 2 [] → Gi p l e us_X6_at ({ frames := 0, cells := 0, slots := 0, locals := 0 } : Room) s m [.ref (ad a), .int p1] below meth c D cy 55 shX ad A r σ H locs (F0 m 20 ls []) := by
    intro  h H locs hW ls hl
    unfold t_X6_at_20 at h
    refine lv_iconst (v := 0) hx hb dX6_at_20 (by decide) ?_
    exact r_iretP hC hr hlocks h hW dX6_at_21
  refine lv_aload_n hx hb dX6_at_0 rfl (lv_at hl 0 rfl) ?_
  refine lv_ifnull hx hb dX6_at_1 ?_
  refine lv_iload_n hx hb dX6_at_4 rfl (lv_at hl 1 rfl) ?_
  refine lv_if_lt (tgt := 20) hx hb dX6_at_5 (by decide) (fun cq => ?_) (fun cq => ?_)
  · replace h := tp cq h
    exact J20  h _ _ hW _ (lv_sub hl [] rfl)
  · replace h := tn cq h
    refine lv_iload_n hx hb dX6_at_8 rfl (lv_at hl 1 rfl) ?_
    refine lv_aload_n hx hb dX6_at_9 rfl (lv_at hl 0 rfl) ?_
    refine r_alen hC hW ha.1 ha.2 dX6_at_10 ?_
    refine lv_icmp_ge (tgt := 20) hx hb dX6_at_11 (by decide) (fun cq => ?_) (fun cq => ?_)
    · replace h := tp cq h
      exact J20  h _ _ hW _ (lv_sub hl [] rfl)
    · replace h := tn cq h
      refine lv_aload_n hx hb dX6_at_14 rfl (lv_at hl 0 rfl) ?_
      refine lv_iload_n hx hb dX6_at_15 rfl (lv_at hl 1 rfl) ?_
      replace h := og h
      obtain ⟨hi, h⟩ := h
      refine r_ald hC hW ha.1 ha.2 hi dX6_at_16 ?_
      refine lv_goto (tgt := 21) hx hb dX6_at_17 (by decide) ?_
      exact r_iretP hC hr hlocks h hW dX6_at_21
set_option maxHeartbeats 4000000 in
set_option maxRecDepth 100000 in
theorem c_X0_isWhole (l : Launch) (D : va_G) (cy : ClassId × ClassId) (ad : Nat → Nat) (A : Nat → Prop) (o : Nat) (ho : isCoop o) (p0 : Int32) (σ : Hp) (r : Int32) (h : t_X0_isWhole o p0 σ = some r) : Ci l yX0_isWhole us_X0_isWhole ({ frames := 1, cells := 0, slots := 0, locals := 21 } : Room) D cy 55 shX ad A [.ref (ad o), .int p0] σ r σ := by
  unfold t_X0_isWhole at h
  refine Met.ofW (cc := cX0_isWhole) (maxL := 2) (ret := (some .boolean)) (by decide) rfl ?_
  intro p e s m args below meth c s₁ B hml hv
  obtain ⟨rfl, hP, hK, hD, hA, hN⟩ := hv
  have hx := B.exec
  have hb := B.bytes
  have hr := B.returns
  have hlocks := B.notSynchronized
  have hts : ∀ w ∈ wsU, w.before _ s = true := fun w h => atoms_spec (ws := us_X0_isWhole) B.pre w (List.mem_cons_of_mem _ h)
  have hown : s.vm.findClass RX0 = some m.cls := findClass_of_methodNamed B.named
  have hC : Cx p m c cX0_isWhole 2 s _ wsU RX0 D cy := ⟨⟨hx, hb, hml, hown, hts⟩, hK, hN⟩
  have hW : Wd D cy 55 shX ad A s.heap σ s.heap [] := ⟨hP, hD, va_S.rf, hA⟩
  have hl := lv_entry ([.ref (ad o), .int p0]) (n := 2) (Nat.le_of_ble_eq_true rfl)
  rw [lg_entry_eq]
  generalize (lg_sl ([.ref (ad o), .int p0]) ++ List.replicate (2 - (lg_sl ([.ref (ad o), .int p0])).length) Slot.unset).toArray = ls at hl ⊢
  have hl : lv_has ls 2 [(0, .ref (ad o)), (1, .int p0)] := hl
  refine lv_aload_n hx hb dX0_isWhole_0 rfl (lv_at hl 0 rfl) ?_
  refine r_getr hC hW 3 (isCoop_b ho 0 (Nat.zero_le _)) ho.2.1 rfl rfl (by decide) inUX0 (hts _ wd_3) rfl dX0_isWhole_1 ?_
  refine lv_iload_n hx hb dX0_isWhole_4 rfl (lv_at hl 1 rfl) ?_
  refine lv_iconst (v := 5) hx hb dX0_isWhole_5 (by decide) ?_
  refine lv_imul hx hb dX0_isWhole_6 ?_
  refine lv_iconst (v := 4) hx hb dX0_isWhole_7 (by decide) ?_
  refine lv_iadd hx hb dX0_isWhole_8 ?_
  replace h := bd h
  obtain ⟨r1, hc, h⟩ := h
  refine r_calli hW (va_runSN (As := [.ref (ad (o + 2)), .int ((p0 * 5) + 4)]) (rest := []) hC.1 (c_X6_at l D cy ad A (o + 2) 35 ⟨isCoop_b ho 2 (Nat.le_of_ble_eq_true rfl), ho.2.2.2⟩ _ _ _ hc) ⟨va_cnB 2 hts (gdN wd_4) rfl rfl rfl (NL.at hC.2.2 nw_RX0_46 rfl) (hts _ wd_5) (by decide +kernel) ⟨Nat.le_of_ble_eq_true rfl, Nat.le_of_ble_eq_true rfl⟩, hts _ wd_6, trivial⟩ (r_preS hC hW) rfl rfl hl.1 rfl (lv_room (Nat.le_of_ble_eq_true rfl)) dX0_isWhole_9 ⟨Nat.zero_le _, Nat.zero_le _⟩) (fun H locs hWn => ?_)
  replace hW := hWn
  clear hWn hc
  refine lv_if_ne (tgt := 19) hx hb dX0_isWhole_12 (by decide) (fun cq => ?_) (fun cq => ?_)
  · replace h := tn cq h
    refine lv_iconst (v := 0) hx hb dX0_isWhole_19 (by decide) ?_
    exact r_zretP (Or.inl rfl) hC hr hlocks h hW dX0_isWhole_20
  · replace h := tp cq h
    refine lv_iconst (v := 1) hx hb dX0_isWhole_15 (by decide) ?_
    refine lv_goto (tgt := 20) hx hb dX0_isWhole_16 (by decide) ?_
    exact r_zretP (Or.inr rfl) hC hr hlocks h hW dX0_isWhole_20
set_option maxHeartbeats 4000000 in
set_option maxRecDepth 100000 in
theorem c_X0_countWhole (l : Launch) (D : va_G) (cy : ClassId × ClassId) (ad : Nat → Nat) (A : Nat → Prop) (N : Nat) (o : Nat) (ho : isCoop o) (σ : Hp) (r : Int32) (h : t_X0_countWhole N o σ = some r) : Ci l yX0_countWhole us_X0_countWhole ({ frames := 2, cells := 0, slots := 0, locals := 42 } : Room) D cy 55 shX ad A [.ref (ad o)] σ r σ := by
  unfold t_X0_countWhole at h
  refine Met.ofW (cc := cX0_countWhole) (maxL := 3) (ret := (some .int)) (by decide) rfl ?_
  intro p e s m args below meth c s₁ B hml hv
  obtain ⟨rfl, hP, hK, hD, hA, hN⟩ := hv
  have hx := B.exec
  have hb := B.bytes
  have hr := B.returns
  have hlocks := B.notSynchronized
  have hts : ∀ w ∈ wsU, w.before _ s = true := fun w h => atoms_spec (ws := us_X0_countWhole) B.pre w (List.mem_cons_of_mem _ h)
  have hown : s.vm.findClass RX0 = some m.cls := findClass_of_methodNamed B.named
  have hC : Cx p m c cX0_countWhole 3 s _ wsU RX0 D cy := ⟨⟨hx, hb, hml, hown, hts⟩, hK, hN⟩
  have hW : Wd D cy 55 shX ad A s.heap σ s.heap [] := ⟨hP, hD, va_S.rf, hA⟩
  have hl := lv_entry ([.ref (ad o)]) (n := 3) (Nat.le_of_ble_eq_true rfl)
  rw [lg_entry_eq]
  generalize (lg_sl ([.ref (ad o)]) ++ List.replicate (3 - (lg_sl ([.ref (ad o)])).length) Slot.unset).toArray = ls at hl ⊢
  have hl : lv_has ls 3 [(0, .ref (ad o))] := hl
  have L4 : ∀ (f : Nat) (v1 : Int32) (v2 : Int32), t_X0_countWhole_4 N o f v1 v2 σ = some r → ∀ (H : Heap) (locs : List Loc), Wd D cy 55 shX ad A s.heap σ H locs → ∀ ls : Array Slot, lv_has ls 3 [(0, .ref (ad o)), (1, .int v1), (2, .int v2)] → Gi p l e us_X0_countWhole ({ frames := 2, cells := 0, slots := 0, locals := 42 } : Room) s m [.ref (ad o)] below meth c D cy 55 shX ad A r σ H locs (F0 m 4 ls []) := by
    intro f
    unfold t_X0_countWhole_4
    refine loopG_ind (fun (T : Int32 → Int32 → Hp → Option Int32) => ∀ (v1 : Int32) (v2 : Int32), T v1 v2 σ = some r → ∀ (H : Heap) (locs : List Loc), Wd D cy 55 shX ad A s.heap σ H locs → ∀ ls : Array Slot, lv_has ls 3 [(0, .ref (ad o)), (1, .int v1), (2, .int v2)] → Gi p l e us_X0_countWhole ({ frames := 2, cells := 0, slots := 0, locals := 42 } : Room) s m [.ref (ad o)] below meth c D cy 55 shX ad A r σ H locs (F0 m 4 ls [])) ?_ ?_ f
    · intro v1 v2 h; exact absurd h (by simp)
    · intro k4 ih4
      have J23 : ∀ (v1 : Int32) (v2 : Int32), t_X0_countWhole_23 N o k4 v1 v2 σ = some r → ∀ (H : Heap) (locs : List Loc), Wd D cy 55 shX ad A s.heap σ H locs → ∀ ls : Array Slot, lv_has ls 3 [(0, .ref (ad o)), (1, .int v1), (2, .int v2)] → Gi p l e us_X0_countWhole ({ frames := 2, cells := 0, slots := 0, locals := 42 } : Room) s m [.ref (ad o)] below meth c D cy 55 shX ad A r σ H locs (F0 m 23 ls []) := by
        intro v1 v2 h H locs hW ls hl
        unfold t_X0_countWhole_23 at h
        replace h := bx h
        obtain ⟨x1, ex1, h⟩ := h
        refine lv_iinc (v := x1) (lv' := [(2, .int x1), (0, .ref (ad o)), (1, .int v1)]) hx hb dX0_countWhole_23 hl (k := 2) rfl (by rw [ex1]; rfl) (by decide) rfl (fun ls hln => ?_)
        replace hl := hln
        clear hln ex1
        refine lv_goto (tgt := 4) hx hb dX0_countWhole_26 (by decide) ?_
        exact ih4 _ _ h _ _ hW _ (lv_sub hl [1, 2, 0] rfl)
      intro v1 v2 h H locs hW ls hl
      refine lv_iload_n hx hb dX0_countWhole_4 rfl (lv_at hl 2 rfl) ?_
      refine lv_aload_n hx hb dX0_countWhole_5 rfl (lv_at hl 0 rfl) ?_
      refine r_geti hC hW 0 (isCoop_b ho 0 (Nat.zero_le _)) ho.2.1 rfl rfl (by decide) inUX0 (hts _ wd_7) rfl dX0_countWhole_6 ?_
      refine lv_icmp_ge (tgt := 29) hx hb dX0_countWhole_9 (by decide) (fun cq => ?_) (fun cq => ?_)
      · replace h := tp cq h
        refine lv_iload_n hx hb dX0_countWhole_29 rfl (lv_at hl 1 rfl) ?_
        exact r_iretP hC hr hlocks h hW dX0_countWhole_30
      · replace h := tn cq h
        refine lv_aload_n hx hb dX0_countWhole_12 rfl (lv_at hl 0 rfl) ?_
        refine lv_iload_n hx hb dX0_countWhole_13 rfl (lv_at hl 2 rfl) ?_
        replace h := bd h
        obtain ⟨r2, hc, h⟩ := h
        refine r_calli hW (va_runV (As := [.int v2]) (rest := []) hC.1 (c_X0_isWhole l D cy ad A o ho _ _ _ hc) (cwV 1 hts (gdV wd_9 wd_10 wd_11 wd_12 wd_8) rfl rfl rfl (by decide +kernel) ⟨Nat.le_of_ble_eq_true rfl, Nat.le_of_ble_eq_true rfl⟩) (r_preV hC hW (isCoop_b ho 0 (Nat.zero_le _)) ho.2.1 rfl) rfl rfl hl.1 rfl (lv_room (Nat.le_of_ble_eq_true rfl)) dX0_countWhole_14 ⟨Nat.zero_le _, Nat.zero_le _⟩) (fun H locs hWn => ?_)
        replace hW := hWn
        clear hWn hc
        refine lv_if_eq (tgt := 23) hx hb dX0_countWhole_17 (by decide) (fun cq => ?_) (fun cq => ?_)
        · replace h := tp cq h
          exact J23 _ _ h _ _ hW _ (lv_sub hl [0, 1, 2] rfl)
        · replace h := tn cq h
          replace h := bx h
          obtain ⟨x3, ex3, h⟩ := h
          refine lv_iinc (v := x3) (lv' := [(1, .int x3), (0, .ref (ad o)), (2, .int v2)]) hx hb dX0_countWhole_20 hl (k := 1) rfl (by rw [ex3]; rfl) (by decide) rfl (fun ls hln => ?_)
          replace hl := hln
          clear hln ex3
          exact J23 _ _ h _ _ hW _ (lv_sub hl [1, 0, 2] rfl)
  refine lv_iconst (v := 0) hx hb dX0_countWhole_0 (by decide) ?_
  refine lv_istore_n (lv' := [(1, .int 0), (0, .ref (ad o))]) hx hb dX0_countWhole_1 rfl hl (by decide) rfl (fun ls hln => ?_)
  replace hl := hln
  clear hln
  refine lv_iconst (v := 0) hx hb dX0_countWhole_2 (by decide) ?_
  refine lv_istore_n (lv' := [(2, .int 0), (1, .int 0), (0, .ref (ad o))]) hx hb dX0_countWhole_3 rfl hl (by decide) rfl (fun ls hln => ?_)
  replace hl := hln
  clear hln
  exact L4 _ _ _ h _ _ hW _ (lv_sub hl [2, 1, 0] rfl)
set_option maxHeartbeats 4000000 in
set_option maxRecDepth 100000 in
theorem c_X0_areAllWhole (l : Launch) (D : va_G) (cy : ClassId × ClassId) (ad : Nat → Nat) (A : Nat → Prop) (N : Nat) (o : Nat) (ho : isCoop o) (σ : Hp) (r : Int32) (h : t_X0_areAllWhole N o σ = some r) : Ci l yX0_areAllWhole us_X0_areAllWhole ({ frames := 3, cells := 0, slots := 0, locals := 64 } : Room) D cy 55 shX ad A [.ref (ad o)] σ r σ := by
  unfold t_X0_areAllWhole at h
  refine Met.ofW (cc := cX0_areAllWhole) (maxL := 1) (ret := (some .boolean)) (by decide) rfl ?_
  intro p e s m args below meth c s₁ B hml hv
  obtain ⟨rfl, hP, hK, hD, hA, hN⟩ := hv
  have hx := B.exec
  have hb := B.bytes
  have hr := B.returns
  have hlocks := B.notSynchronized
  have hts : ∀ w ∈ wsU, w.before _ s = true := fun w h => atoms_spec (ws := us_X0_areAllWhole) B.pre w (List.mem_cons_of_mem _ h)
  have hown : s.vm.findClass RX0 = some m.cls := findClass_of_methodNamed B.named
  have hC : Cx p m c cX0_areAllWhole 1 s _ wsU RX0 D cy := ⟨⟨hx, hb, hml, hown, hts⟩, hK, hN⟩
  have hW : Wd D cy 55 shX ad A s.heap σ s.heap [] := ⟨hP, hD, va_S.rf, hA⟩
  have hl := lv_entry ([.ref (ad o)]) (n := 1) (Nat.le_of_ble_eq_true rfl)
  rw [lg_entry_eq]
  generalize (lg_sl ([.ref (ad o)]) ++ List.replicate (1 - (lg_sl ([.ref (ad o)])).length) Slot.unset).toArray = ls at hl ⊢
  have hl : lv_has ls 1 [(0, .ref (ad o))] := hl
  refine lv_aload_n hx hb dX0_areAllWhole_0 rfl (lv_at hl 0 rfl) ?_
  replace h := bd h
  obtain ⟨r1, hc, h⟩ := h
  refine r_calli hW (va_runV (As := []) (rest := []) hC.1 (c_X0_countWhole l D cy ad A N o ho _ _ hc) (cwV 0 hts (gdV wd_14 wd_15 wd_16 wd_12 wd_13) rfl rfl rfl (by decide +kernel) ⟨Nat.le_of_ble_eq_true rfl, Nat.le_of_ble_eq_true rfl⟩) (r_preV hC hW (isCoop_b ho 0 (Nat.zero_le _)) ho.2.1 rfl) rfl rfl hl.1 rfl (lv_room (Nat.le_of_ble_eq_true rfl)) dX0_areAllWhole_1 ⟨Nat.zero_le _, Nat.zero_le _⟩) (fun H locs hWn => ?_)
  replace hW := hWn
  clear hWn hc
  refine lv_aload_n hx hb dX0_areAllWhole_4 rfl (lv_at hl 0 rfl) ?_
  refine r_geti hC hW 0 (isCoop_b ho 0 (Nat.zero_le _)) ho.2.1 rfl rfl (by decide) inUX0 (hts _ wd_7) rfl dX0_areAllWhole_5 ?_
  refine lv_icmp_ne (tgt := 15) hx hb dX0_areAllWhole_8 (by decide) (fun cq => ?_) (fun cq => ?_)
  · replace h := tn cq h
    refine lv_iconst (v := 0) hx hb dX0_areAllWhole_15 (by decide) ?_
    exact r_zretP (Or.inl rfl) hC hr hlocks h hW dX0_areAllWhole_16
  · replace h := tp cq h
    refine lv_iconst (v := 1) hx hb dX0_areAllWhole_11 (by decide) ?_
    refine lv_goto (tgt := 16) hx hb dX0_areAllWhole_12 (by decide) ?_
    exact r_zretP (Or.inr rfl) hC hr hlocks h hW dX0_areAllWhole_16
set_option maxHeartbeats 4000000 in
set_option maxRecDepth 100000 in
theorem c_X0_fact (l : Launch) (D : va_G) (cy : ClassId × ClassId) (ad : Nat → Nat) (A : Nat → Prop) (o : Nat) (ho : isCoop o) (p0 : Int32) (p1 : Int32) (σ : Hp) (r : Int32) (h : t_X0_fact o p0 p1 σ = some r) : Ci l yX0_fact us_X0_fact ({ frames := 1, cells := 0, slots := 0, locals := 21 } : Room) D cy 55 shX ad A [.ref (ad o), .int p0, .int p1] σ r σ := by
  unfold t_X0_fact at h
  refine Met.ofW (cc := cX0_fact) (maxL := 3) (ret := (some .int)) (by decide) rfl ?_
  intro p e s m args below meth c s₁ B hml hv
  obtain ⟨rfl, hP, hK, hD, hA, hN⟩ := hv
  have hx := B.exec
  have hb := B.bytes
  have hr := B.returns
  have hlocks := B.notSynchronized
  have hts : ∀ w ∈ wsU, w.before _ s = true := fun w h => atoms_spec (ws := us_X0_fact) B.pre w (List.mem_cons_of_mem _ h)
  have hown : s.vm.findClass RX0 = some m.cls := findClass_of_methodNamed B.named
  have hC : Cx p m c cX0_fact 3 s _ wsU RX0 D cy := ⟨⟨hx, hb, hml, hown, hts⟩, hK, hN⟩
  have hW : Wd D cy 55 shX ad A s.heap σ s.heap [] := ⟨hP, hD, va_S.rf, hA⟩
  have hl := lv_entry ([.ref (ad o), .int p0, .int p1]) (n := 3) (Nat.le_of_ble_eq_true rfl)
  rw [lg_entry_eq]
  generalize (lg_sl ([.ref (ad o), .int p0, .int p1]) ++ List.replicate (3 - (lg_sl ([.ref (ad o), .int p0, .int p1])).length) Slot.unset).toArray = ls at hl ⊢
  have hl : lv_has ls 3 [(0, .ref (ad o)), (1, .int p0), (2, .int p1)] := hl
  refine lv_aload_n hx hb dX0_fact_0 rfl (lv_at hl 0 rfl) ?_
  refine r_getr hC hW 3 (isCoop_b ho 0 (Nat.zero_le _)) ho.2.1 rfl rfl (by decide) inUX0 (hts _ wd_3) rfl dX0_fact_1 ?_
  refine lv_iload_n hx hb dX0_fact_4 rfl (lv_at hl 1 rfl) ?_
  refine lv_iconst (v := 5) hx hb dX0_fact_5 (by decide) ?_
  refine lv_imul hx hb dX0_fact_6 ?_
  refine lv_iload_n hx hb dX0_fact_7 rfl (lv_at hl 2 rfl) ?_
  refine lv_iadd hx hb dX0_fact_8 ?_
  replace h := bd h
  obtain ⟨r1, hc, h⟩ := h
  refine r_calli hW (va_runSN (As := [.ref (ad (o + 2)), .int ((p0 * 5) + p1)]) (rest := []) hC.1 (c_X6_at l D cy ad A (o + 2) 35 ⟨isCoop_b ho 2 (Nat.le_of_ble_eq_true rfl), ho.2.2.2⟩ _ _ _ hc) ⟨va_cnB 2 hts (gdN wd_4) rfl rfl rfl (NL.at hC.2.2 nw_RX0_46 rfl) (hts _ wd_5) (by decide +kernel) ⟨Nat.le_of_ble_eq_true rfl, Nat.le_of_ble_eq_true rfl⟩, hts _ wd_6, trivial⟩ (r_preS hC hW) rfl rfl hl.1 rfl (lv_room (Nat.le_of_ble_eq_true rfl)) dX0_fact_9 ⟨Nat.zero_le _, Nat.zero_le _⟩) (fun H locs hWn => ?_)
  replace hW := hWn
  clear hWn hc
  exact r_iretP hC hr hlocks h hW dX0_fact_12
set_option maxHeartbeats 4000000 in
set_option maxRecDepth 100000 in
theorem c_X0_condition (l : Launch) (D : va_G) (cy : ClassId × ClassId) (ad : Nat → Nat) (A : Nat → Prop) (o : Nat) (ho : isCoop o) (p0 : Int32) (p1 : Int32) (σ : Hp) (r : Int32) (h : t_X0_condition o p0 p1 σ = some r) : Ci l yX0_condition us_X0_condition ({ frames := 2, cells := 0, slots := 0, locals := 43 } : Room) D cy 55 shX ad A [.ref (ad o), .int p0, .int p1] σ r σ := by
  unfold t_X0_condition at h
  refine Met.ofW (cc := cX0_condition) (maxL := 3) (ret := (some .int)) (by decide) rfl ?_
  intro p e s m args below meth c s₁ B hml hv
  obtain ⟨rfl, hP, hK, hD, hA, hN⟩ := hv
  have hx := B.exec
  have hb := B.bytes
  have hr := B.returns
  have hlocks := B.notSynchronized
  have hts : ∀ w ∈ wsU, w.before _ s = true := fun w h => atoms_spec (ws := us_X0_condition) B.pre w (List.mem_cons_of_mem _ h)
  have hown : s.vm.findClass RX0 = some m.cls := findClass_of_methodNamed B.named
  have hC : Cx p m c cX0_condition 3 s _ wsU RX0 D cy := ⟨⟨hx, hb, hml, hown, hts⟩, hK, hN⟩
  have hW : Wd D cy 55 shX ad A s.heap σ s.heap [] := ⟨hP, hD, va_S.rf, hA⟩
  have hl := lv_entry ([.ref (ad o), .int p0, .int p1]) (n := 3) (Nat.le_of_ble_eq_true rfl)
  rw [lg_entry_eq]
  generalize (lg_sl ([.ref (ad o), .int p0, .int p1]) ++ List.replicate (3 - (lg_sl ([.ref (ad o), .int p0, .int p1])).length) Slot.unset).toArray = ls at hl ⊢
  have hl : lv_has ls 3 [(0, .ref (ad o)), (1, .int p0), (2, .int p1)] := hl
  have J23 : ∀ (s1 : Int32) (s2 : Int32), t_X0_condition_23 o s1 s2 σ = some r → ∀ (H : Heap) (locs : List Loc), Wd D cy 55 shX ad A s.heap σ H locs → ∀ ls : Array Slot, lv_has ls 3 [] → Gi p l e us_X0_condition ({ frames := 2, cells := 0, slots := 0, locals := 43 } : Room) s m [.ref (ad o), .int p0, .int p1] below meth c D cy 55 shX ad A r σ H locs (F0 m 23 ls [.int s2, .int s1, .ref (ad o)]) := by
    intro s1 s2 h H locs hW ls hl
    unfold t_X0_condition_23 at h
    replace h := bd h
    obtain ⟨r1, hc, h⟩ := h
    refine r_calli hW (va_runV (As := [.int s1, .int s2]) (rest := []) hC.1 (c_X0_fact l D cy ad A o ho _ _ _ _ hc) (cwV 2 hts (gdV wd_18 wd_19 wd_20 wd_12 wd_17) rfl rfl rfl (by decide +kernel) ⟨Nat.le_of_ble_eq_true rfl, Nat.le_of_ble_eq_true rfl⟩) (r_preV hC hW (isCoop_b ho 0 (Nat.zero_le _)) ho.2.1 rfl) rfl rfl hl.1 rfl (lv_room (Nat.le_of_ble_eq_true rfl)) dX0_condition_23 ⟨Nat.zero_le _, Nat.zero_le _⟩) (fun H locs hWn => ?_)
    replace hW := hWn
    clear hWn hc
    exact r_iretP hC hr hlocks h hW dX0_condition_26
  refine lv_iload_n hx hb dX0_condition_0 rfl (lv_at hl 2 rfl) ?_
  refine lv_if_ne (tgt := 11) hx hb dX0_condition_1 (by decide) (fun cq => ?_) (fun cq => ?_)
  · replace h := tn cq h
    refine lv_aload_n hx hb dX0_condition_11 rfl (lv_at hl 0 rfl) ?_
    refine lv_iload_n hx hb dX0_condition_12 rfl (lv_at hl 1 rfl) ?_
    refine lv_iload_n hx hb dX0_condition_13 rfl (lv_at hl 2 rfl) ?_
    refine lv_iconst (v := 1) hx hb dX0_condition_14 (by decide) ?_
    refine lv_icmp_ne (tgt := 22) hx hb dX0_condition_15 (by decide) (fun cq => ?_) (fun cq => ?_)
    · replace h := tn cq h
      refine lv_iconst (v := 4) hx hb dX0_condition_22 (by decide) ?_
      exact J23 _ _ h _ _ hW _ (lv_sub hl [] rfl)
    · replace h := tp cq h
      refine lv_iconst (v := 3) hx hb dX0_condition_18 (by decide) ?_
      refine lv_goto (tgt := 23) hx hb dX0_condition_19 (by decide) ?_
      exact J23 _ _ h _ _ hW _ (lv_sub hl [] rfl)
  · replace h := tp cq h
    refine lv_aload_n hx hb dX0_condition_4 rfl (lv_at hl 0 rfl) ?_
    refine lv_iload_n hx hb dX0_condition_5 rfl (lv_at hl 1 rfl) ?_
    refine lv_iconst (v := 1) hx hb dX0_condition_6 (by decide) ?_
    replace h := bd h
    obtain ⟨r2, hc, h⟩ := h
    refine r_calli hW (va_runV (As := [.int p0, .int 1]) (rest := []) hC.1 (c_X0_fact l D cy ad A o ho _ _ _ _ hc) (cwV 2 hts (gdV wd_18 wd_19 wd_20 wd_12 wd_17) rfl rfl rfl (by decide +kernel) ⟨Nat.le_of_ble_eq_true rfl, Nat.le_of_ble_eq_true rfl⟩) (r_preV hC hW (isCoop_b ho 0 (Nat.zero_le _)) ho.2.1 rfl) rfl rfl hl.1 rfl (lv_room (Nat.le_of_ble_eq_true rfl)) dX0_condition_7 ⟨Nat.zero_le _, Nat.zero_le _⟩) (fun H locs hWn => ?_)
    replace hW := hWn
    clear hWn hc
    exact r_iretP hC hr hlocks h hW dX0_condition_10
set_option maxHeartbeats 4000000 in
set_option maxRecDepth 100000 in
theorem c_X6_copyRow (l : Launch) (D : va_G) (cy : ClassId × ClassId) (ad : Nat → Nat) (A : Nat → Prop) (N : Nat) (a : Nat) (la : Nat) (ha : isArr a la) (a2 : Nat) (la2 : Nat) (ha2 : isArr a2 la2) (σ : Hp) (σ' : Hp) (h : t_X6_copyRow N a la a2 la2 σ = some σ') : Cv l yX6_copyRow us_X6_copyRow ({ frames := 0, cells := 0, slots := 0, locals := 0 } : Room) D cy 55 shX ad A [.ref (ad a), .ref (ad a2)] σ σ' := by
  unfold t_X6_copyRow at h
  refine Met.ofW (cc := cX6_copyRow) (maxL := 3) (ret := none) (by decide) rfl ?_
  intro p e s m args below meth c s₁ B hml hv
  obtain ⟨rfl, hP, hK, hD, hA, hN⟩ := hv
  have hx := B.exec
  have hb := B.bytes
  have hr := B.returns
  have hlocks := B.notSynchronized
  have hts : ∀ w ∈ wsU, w.before _ s = true := fun w h => atoms_spec (ws := us_X6_copyRow) B.pre w (List.mem_cons_of_mem _ h)
  have hown : s.vm.findClass RX6 = some m.cls := findClass_of_methodNamed B.named
  have hC : Cx p m c cX6_copyRow 3 s _ wsU RX6 D cy := ⟨⟨hx, hb, hml, hown, hts⟩, hK, hN⟩
  have hW : Wd D cy 55 shX ad A s.heap σ s.heap [] := ⟨hP, hD, va_S.rf, hA⟩
  have hl := lv_entry ([.ref (ad a), .ref (ad a2)]) (n := 3) (Nat.le_of_ble_eq_true rfl)
  rw [lg_entry_eq]
  generalize (lg_sl ([.ref (ad a), .ref (ad a2)]) ++ List.replicate (3 - (lg_sl ([.ref (ad a), .ref (ad a2)])).length) Slot.unset).toArray = ls at hl ⊢
  have hl : lv_has ls 3 [(0, .ref (ad a)), (1, .ref (ad a2))] := hl
  have L11 : ∀ (f : Nat) (v2 : Int32) (σ : Hp), t_X6_copyRow_11 N a la a2 la2 f v2 σ = some σ' → ∀ (H : Heap) (locs : List Loc), Wd D cy 55 shX ad A s.heap σ H locs → ∀ ls : Array Slot, lv_has ls 3 [(0, .ref (ad a)), (1, .ref (ad a2)), (2, .int v2)] → Gv p l e us_X6_copyRow ({ frames := 0, cells := 0, slots := 0, locals := 0 } : Room) s m [.ref (ad a), .ref (ad a2)] below meth c D cy 55 shX ad A σ' H locs (F0 m 11 ls []) := by
    intro f
    unfold t_X6_copyRow_11
    refine loopG_ind (fun (T : Int32 → Hp → Option Hp) => ∀ (v2 : Int32) (σ : Hp), T v2 σ = some σ' → ∀ (H : Heap) (locs : List Loc), Wd D cy 55 shX ad A s.heap σ H locs → ∀ ls : Array Slot, lv_has ls 3 [(0, .ref (ad a)), (1, .ref (ad a2)), (2, .int v2)] → Gv p l e us_X6_copyRow ({ frames := 0, cells := 0, slots := 0, locals := 0 } : Room) s m [.ref (ad a), .ref (ad a2)] below meth c D cy 55 shX ad A σ' H locs (F0 m 11 ls [])) ?_ ?_ f
    · intro v2 σ h; exact absurd h (by simp)
    · intro k11 ih11
      intro v2 σ h H locs hW ls hl
      refine lv_iload_n hx hb dX6_copyRow_11 rfl (lv_at hl 2 rfl) ?_
      refine lv_aload_n hx hb dX6_copyRow_12 rfl (lv_at hl 0 rfl) ?_
      refine r_alen hC hW ha.1 ha.2 dX6_copyRow_13 ?_
      refine lv_icmp_ge (tgt := 35) hx hb dX6_copyRow_14 (by decide) (fun cq => ?_) (fun cq => ?_)
      · replace h := tp cq h
        exact r_vretW hC hr hlocks h hW dX6_copyRow_35
      · replace h := tn cq h
        refine lv_iload_n hx hb dX6_copyRow_17 rfl (lv_at hl 2 rfl) ?_
        refine lv_aload_n hx hb dX6_copyRow_18 rfl (lv_at hl 1 rfl) ?_
        refine r_alen hC hW ha2.1 ha2.2 dX6_copyRow_19 ?_
        refine lv_icmp_ge (tgt := 35) hx hb dX6_copyRow_20 (by decide) (fun cq => ?_) (fun cq => ?_)
        · replace h := tp cq h
          exact r_vretW hC hr hlocks h hW dX6_copyRow_35
        · replace h := tn cq h
          refine lv_aload_n hx hb dX6_copyRow_23 rfl (lv_at hl 1 rfl) ?_
          refine lv_iload_n hx hb dX6_copyRow_24 rfl (lv_at hl 2 rfl) ?_
          refine lv_aload_n hx hb dX6_copyRow_25 rfl (lv_at hl 0 rfl) ?_
          refine lv_iload_n hx hb dX6_copyRow_26 rfl (lv_at hl 2 rfl) ?_
          replace h := og h
          obtain ⟨hi, h⟩ := h
          refine r_ald hC hW ha.1 ha.2 hi dX6_copyRow_27 ?_
          replace h := og h
          obtain ⟨hi, h⟩ := h
          refine r_ast hC hW ha2.1 ha2.2 hi dX6_copyRow_28 (fun σ1 eσ1 H locs hWn => ?_)
          replace h := bn eσ1 h
          replace hW := hWn
          clear hWn eσ1
          replace h := bx h
          obtain ⟨x2, ex2, h⟩ := h
          refine lv_iinc (v := x2) (lv' := [(2, .int x2), (0, .ref (ad a)), (1, .ref (ad a2))]) hx hb dX6_copyRow_29 hl (k := 2) rfl (by rw [ex2]; rfl) (by decide) rfl (fun ls hln => ?_)
          replace hl := hln
          clear hln ex2
          refine lv_goto (tgt := 11) hx hb dX6_copyRow_32 (by decide) ?_
          exact ih11 _ _ h _ _ hW _ (lv_sub hl [1, 2, 0] rfl)
  refine lv_aload_n hx hb dX6_copyRow_0 rfl (lv_at hl 0 rfl) ?_
  refine lv_ifnull hx hb dX6_copyRow_1 ?_
  refine lv_aload_n hx hb dX6_copyRow_4 rfl (lv_at hl 1 rfl) ?_
  refine lv_ifnonnull (tgt := 9) hx hb dX6_copyRow_5 (by decide) ?_
  refine lv_iconst (v := 0) hx hb dX6_copyRow_9 (by decide) ?_
  refine lv_istore_n (lv' := [(2, .int 0), (0, .ref (ad a)), (1, .ref (ad a2))]) hx hb dX6_copyRow_10 rfl hl (by decide) rfl (fun ls hln => ?_)
  replace hl := hln
  clear hln
  exact L11 _ _ _ h _ _ hW _ (lv_sub hl [1, 2, 0] rfl)
set_option maxHeartbeats 4000000 in
set_option maxRecDepth 100000 in
theorem c_X0_copyFrom (l : Launch) (D : va_G) (cy : ClassId × ClassId) (ad : Nat → Nat) (A : Nat → Prop) (N : Nat) (o : Nat) (ho : isCoop o) (o2 : Nat) (ho2 : isCoop o2) (σ : Hp) (σ' : Hp) (h : t_X0_copyFrom N o o2 σ = some σ') : Cv l yX0_copyFrom us_X0_copyFrom ({ frames := 1, cells := 0, slots := 0, locals := 22 } : Room) D cy 55 shX ad A [.ref (ad o), .ref (ad o2)] σ σ' := by
  unfold t_X0_copyFrom at h
  refine Met.ofW (cc := cX0_copyFrom) (maxL := 2) (ret := none) (by decide) rfl ?_
  intro p e s m args below meth c s₁ B hml hv
  obtain ⟨rfl, hP, hK, hD, hA, hN⟩ := hv
  have hx := B.exec
  have hb := B.bytes
  have hr := B.returns
  have hlocks := B.notSynchronized
  have hts : ∀ w ∈ wsU, w.before _ s = true := fun w h => atoms_spec (ws := us_X0_copyFrom) B.pre w (List.mem_cons_of_mem _ h)
  have hown : s.vm.findClass RX0 = some m.cls := findClass_of_methodNamed B.named
  have hC : Cx p m c cX0_copyFrom 2 s _ wsU RX0 D cy := ⟨⟨hx, hb, hml, hown, hts⟩, hK, hN⟩
  have hW : Wd D cy 55 shX ad A s.heap σ s.heap [] := ⟨hP, hD, va_S.rf, hA⟩
  have hl := lv_entry ([.ref (ad o), .ref (ad o2)]) (n := 2) (Nat.le_of_ble_eq_true rfl)
  rw [lg_entry_eq]
  generalize (lg_sl ([.ref (ad o), .ref (ad o2)]) ++ List.replicate (2 - (lg_sl ([.ref (ad o), .ref (ad o2)])).length) Slot.unset).toArray = ls at hl ⊢
  have hl : lv_has ls 2 [(0, .ref (ad o)), (1, .ref (ad o2))] := hl
  refine lv_aload_n hx hb dX0_copyFrom_0 rfl (lv_at hl 0 rfl) ?_
  refine lv_aload_n hx hb dX0_copyFrom_1 rfl (lv_at hl 1 rfl) ?_
  refine r_geti hC hW 0 (isCoop_b ho2 0 (Nat.zero_le _)) ho2.2.1 rfl rfl (by decide) inUX0 (hts _ wd_7) rfl dX0_copyFrom_2 ?_
  refine r_put hC hW 0 (isCoop_b ho 0 (Nat.zero_le _)) ho.2.1 rfl rfl (by decide) inUX0 tyX0 tyX0_ok nmX0 (hts _ wd_7) rfl rfl ⟨rfl, rfl⟩ dX0_copyFrom_5 (fun σ1 eσ1 H locs hWn => ?_)
  replace h := bn eσ1 h
  replace hW := hWn
  clear hWn eσ1
  refine lv_aload_n hx hb dX0_copyFrom_8 rfl (lv_at hl 0 rfl) ?_
  refine lv_aload_n hx hb dX0_copyFrom_9 rfl (lv_at hl 1 rfl) ?_
  refine r_geti hC hW 1 (isCoop_b ho2 0 (Nat.zero_le _)) ho2.2.1 rfl rfl (by decide) inUX0 (hts _ wd_21) rfl dX0_copyFrom_10 ?_
  refine r_put hC hW 1 (isCoop_b ho 0 (Nat.zero_le _)) ho.2.1 rfl rfl (by decide) inUX0 tyX0 tyX0_ok nmX0 (hts _ wd_21) rfl rfl ⟨rfl, rfl⟩ dX0_copyFrom_13 (fun σ2 eσ2 H locs hWn => ?_)
  replace h := bn eσ2 h
  replace hW := hWn
  clear hWn eσ2
  refine lv_aload_n hx hb dX0_copyFrom_16 rfl (lv_at hl 1 rfl) ?_
  refine r_getr hC hW 2 (isCoop_b ho2 0 (Nat.zero_le _)) ho2.2.1 rfl rfl (by decide) inUX0 (hts _ wd_22) rfl dX0_copyFrom_17 ?_
  refine lv_aload_n hx hb dX0_copyFrom_20 rfl (lv_at hl 0 rfl) ?_
  refine r_getr hC hW 2 (isCoop_b ho 0 (Nat.zero_le _)) ho.2.1 rfl rfl (by decide) inUX0 (hts _ wd_22) rfl dX0_copyFrom_21 ?_
  replace h := bd h
  obtain ⟨σ3, hc, h⟩ := h
  refine r_callv hW (va_runSN (As := [.ref (ad (o2 + 1)), .ref (ad (o + 1))]) (rest := []) hC.1 (c_X6_copyRow l D cy ad A N (o2 + 1) 7 ⟨isCoop_b ho2 1 (Nat.le_of_ble_eq_true rfl), ho2.2.2.1⟩ (o + 1) 7 ⟨isCoop_b ho 1 (Nat.le_of_ble_eq_true rfl), ho.2.2.1⟩ _ _ hc) ⟨va_cnB 2 hts (gdN wd_23) rfl rfl rfl (NL.at hC.2.2 nw_RX0_42 rfl) (hts _ wd_5) (by decide +kernel) ⟨Nat.le_of_ble_eq_true rfl, Nat.le_of_ble_eq_true rfl⟩, hts _ wd_24, trivial⟩ (r_preS hC hW) rfl rfl hl.1 rfl (lv_room (Nat.le_of_ble_eq_true rfl)) dX0_copyFrom_24 ⟨Nat.zero_le _, Nat.zero_le _⟩) (fun H locs hWn => ?_)
  replace hW := hWn
  clear hWn hc
  refine lv_aload_n hx hb dX0_copyFrom_27 rfl (lv_at hl 1 rfl) ?_
  refine r_getr hC hW 3 (isCoop_b ho2 0 (Nat.zero_le _)) ho2.2.1 rfl rfl (by decide) inUX0 (hts _ wd_3) rfl dX0_copyFrom_28 ?_
  refine lv_aload_n hx hb dX0_copyFrom_31 rfl (lv_at hl 0 rfl) ?_
  refine r_getr hC hW 3 (isCoop_b ho 0 (Nat.zero_le _)) ho.2.1 rfl rfl (by decide) inUX0 (hts _ wd_3) rfl dX0_copyFrom_32 ?_
  replace h := bd h
  obtain ⟨σ4, hc, h⟩ := h
  refine r_callv hW (va_runSN (As := [.ref (ad (o2 + 2)), .ref (ad (o + 2))]) (rest := []) hC.1 (c_X6_copyRow l D cy ad A N (o2 + 2) 35 ⟨isCoop_b ho2 2 (Nat.le_of_ble_eq_true rfl), ho2.2.2.2⟩ (o + 2) 35 ⟨isCoop_b ho 2 (Nat.le_of_ble_eq_true rfl), ho.2.2.2⟩ _ _ hc) ⟨va_cnB 2 hts (gdN wd_23) rfl rfl rfl (NL.at hC.2.2 nw_RX0_42 rfl) (hts _ wd_5) (by decide +kernel) ⟨Nat.le_of_ble_eq_true rfl, Nat.le_of_ble_eq_true rfl⟩, hts _ wd_24, trivial⟩ (r_preS hC hW) rfl rfl hl.1 rfl (lv_room (Nat.le_of_ble_eq_true rfl)) dX0_copyFrom_35 ⟨Nat.zero_le _, Nat.zero_le _⟩) (fun H locs hWn => ?_)
  replace hW := hWn
  clear hWn hc
  exact r_vretW hC hr hlocks h hW dX0_copyFrom_38
set_option maxHeartbeats 4000000 in
set_option maxRecDepth 100000 in
theorem c_X0_countWholeAheadOfEaten (l : Launch) (D : va_G) (cy : ClassId × ClassId) (ad : Nat → Nat) (A : Nat → Prop) (N : Nat) (o : Nat) (ho : isCoop o) (σ : Hp) (r : Int32) (h : t_X0_countWholeAheadOfEaten N o σ = some r) : Ci l yX0_countWholeAheadOfEaten us_X0_countWholeAheadOfEaten ({ frames := 2, cells := 0, slots := 0, locals := 43 } : Room) D cy 55 shX ad A [.ref (ad o)] σ r σ := by
  unfold t_X0_countWholeAheadOfEaten at h
  refine Met.ofW (cc := cX0_countWholeAheadOfEaten) (maxL := 4) (ret := (some .int)) (by decide) rfl ?_
  intro p e s m args below meth c s₁ B hml hv
  obtain ⟨rfl, hP, hK, hD, hA, hN⟩ := hv
  have hx := B.exec
  have hb := B.bytes
  have hr := B.returns
  have hlocks := B.notSynchronized
  have hts : ∀ w ∈ wsU, w.before _ s = true := fun w h => atoms_spec (ws := us_X0_countWholeAheadOfEaten) B.pre w (List.mem_cons_of_mem _ h)
  have hown : s.vm.findClass RX0 = some m.cls := findClass_of_methodNamed B.named
  have hC : Cx p m c cX0_countWholeAheadOfEaten 4 s _ wsU RX0 D cy := ⟨⟨hx, hb, hml, hown, hts⟩, hK, hN⟩
  have hW : Wd D cy 55 shX ad A s.heap σ s.heap [] := ⟨hP, hD, va_S.rf, hA⟩
  have hl := lv_entry ([.ref (ad o)]) (n := 4) (Nat.le_of_ble_eq_true rfl)
  rw [lg_entry_eq]
  generalize (lg_sl ([.ref (ad o)]) ++ List.replicate (4 - (lg_sl ([.ref (ad o)])).length) Slot.unset).toArray = ls at hl ⊢
  have hl : lv_has ls 4 [(0, .ref (ad o))] := hl
  have L4 : ∀ (f : Nat) (v1 : Int32) (v2 : Int32), t_X0_countWholeAheadOfEaten_4 N o f v1 v2 σ = some r → ∀ (H : Heap) (locs : List Loc), Wd D cy 55 shX ad A s.heap σ H locs → ∀ ls : Array Slot, lv_has ls 4 [(0, .ref (ad o)), (1, .int v1), (2, .int v2)] → Gi p l e us_X0_countWholeAheadOfEaten ({ frames := 2, cells := 0, slots := 0, locals := 43 } : Room) s m [.ref (ad o)] below meth c D cy 55 shX ad A r σ H locs (F0 m 4 ls []) := by
    intro f
    unfold t_X0_countWholeAheadOfEaten_4
    refine loopG_ind (fun (T : Int32 → Int32 → Hp → Option Int32) => ∀ (v1 : Int32) (v2 : Int32), T v1 v2 σ = some r → ∀ (H : Heap) (locs : List Loc), Wd D cy 55 shX ad A s.heap σ H locs → ∀ ls : Array Slot, lv_has ls 4 [(0, .ref (ad o)), (1, .int v1), (2, .int v2)] → Gi p l e us_X0_countWholeAheadOfEaten ({ frames := 2, cells := 0, slots := 0, locals := 43 } : Room) s m [.ref (ad o)] below meth c D cy 55 shX ad A r σ H locs (F0 m 4 ls [])) ?_ ?_ f
    · intro v1 v2 h; exact absurd h (by simp)
    · intro k4 ih4
      have J44 : ∀ (v1 : Int32) (v2 : Int32), t_X0_countWholeAheadOfEaten_44 N o k4 v1 v2 σ = some r → ∀ (H : Heap) (locs : List Loc), Wd D cy 55 shX ad A s.heap σ H locs → ∀ ls : Array Slot, lv_has ls 4 [(0, .ref (ad o)), (1, .int v1), (2, .int v2)] → Gi p l e us_X0_countWholeAheadOfEaten ({ frames := 2, cells := 0, slots := 0, locals := 43 } : Room) s m [.ref (ad o)] below meth c D cy 55 shX ad A r σ H locs (F0 m 44 ls []) := by
        intro v1 v2 h H locs hW ls hl
        unfold t_X0_countWholeAheadOfEaten_44 at h
        replace h := bx h
        obtain ⟨x1, ex1, h⟩ := h
        refine lv_iinc (v := x1) (lv' := [(2, .int x1), (0, .ref (ad o)), (1, .int v1)]) hx hb dX0_countWholeAheadOfEaten_44 hl (k := 2) rfl (by rw [ex1]; rfl) (by decide) rfl (fun ls hln => ?_)
        replace hl := hln
        clear hln ex1
        refine lv_goto (tgt := 4) hx hb dX0_countWholeAheadOfEaten_47 (by decide) ?_
        exact ih4 _ _ h _ _ hW _ (lv_sub hl [1, 2, 0] rfl)
      intro v1 v2 h H locs hW ls hl
      refine lv_iload_n hx hb dX0_countWholeAheadOfEaten_4 rfl (lv_at hl 2 rfl) ?_
      refine lv_aload_n hx hb dX0_countWholeAheadOfEaten_5 rfl (lv_at hl 0 rfl) ?_
      refine r_geti hC hW 0 (isCoop_b ho 0 (Nat.zero_le _)) ho.2.1 rfl rfl (by decide) inUX0 (hts _ wd_7) rfl dX0_countWholeAheadOfEaten_6 ?_
      refine lv_icmp_ge (tgt := 50) hx hb dX0_countWholeAheadOfEaten_9 (by decide) (fun cq => ?_) (fun cq => ?_)
      · replace h := tp cq h
        refine lv_iload_n hx hb dX0_countWholeAheadOfEaten_50 rfl (lv_at hl 1 rfl) ?_
        exact r_iretP hC hr hlocks h hW dX0_countWholeAheadOfEaten_51
      · replace h := tn cq h
        refine lv_aload_n hx hb dX0_countWholeAheadOfEaten_12 rfl (lv_at hl 0 rfl) ?_
        refine r_getr hC hW 2 (isCoop_b ho 0 (Nat.zero_le _)) ho.2.1 rfl rfl (by decide) inUX0 (hts _ wd_22) rfl dX0_countWholeAheadOfEaten_13 ?_
        refine lv_iload_n hx hb dX0_countWholeAheadOfEaten_16 rfl (lv_at hl 2 rfl) ?_
        replace h := bd h
        obtain ⟨r2, hc, h⟩ := h
        refine r_calli hW (va_runSN (As := [.ref (ad (o + 1)), .int v2]) (rest := []) hC.1 (c_X6_at l D cy ad A (o + 1) 7 ⟨isCoop_b ho 1 (Nat.le_of_ble_eq_true rfl), ho.2.2.1⟩ _ _ _ hc) ⟨va_cnB 2 hts (gdN wd_4) rfl rfl rfl (NL.at hC.2.2 nw_RX0_46 rfl) (hts _ wd_5) (by decide +kernel) ⟨Nat.le_of_ble_eq_true rfl, Nat.le_of_ble_eq_true rfl⟩, hts _ wd_6, trivial⟩ (r_preS hC hW) rfl rfl hl.1 rfl (lv_room (Nat.le_of_ble_eq_true rfl)) dX0_countWholeAheadOfEaten_17 ⟨Nat.zero_le _, Nat.zero_le _⟩) (fun H locs hWn => ?_)
        replace hW := hWn
        clear hWn hc
        refine lv_istore_n (lv' := [(3, .int r2), (0, .ref (ad o)), (1, .int v1), (2, .int v2)]) hx hb dX0_countWholeAheadOfEaten_20 rfl hl (by decide) rfl (fun ls hln => ?_)
        replace hl := hln
        clear hln
        refine lv_aload_n hx hb dX0_countWholeAheadOfEaten_21 rfl (lv_at hl 1 rfl) ?_
        refine lv_iload_n hx hb dX0_countWholeAheadOfEaten_22 rfl (lv_at hl 0 rfl) ?_
        refine lv_iconst (v := 4) hx hb dX0_countWholeAheadOfEaten_23 (by decide) ?_
        replace h := bd h
        obtain ⟨r3, hc, h⟩ := h
        refine r_calli hW (va_runV (As := [.int r2, .int 4]) (rest := []) hC.1 (c_X0_fact l D cy ad A o ho _ _ _ _ hc) (cwV 2 hts (gdV wd_18 wd_19 wd_20 wd_12 wd_17) rfl rfl rfl (by decide +kernel) ⟨Nat.le_of_ble_eq_true rfl, Nat.le_of_ble_eq_true rfl⟩) (r_preV hC hW (isCoop_b ho 0 (Nat.zero_le _)) ho.2.1 rfl) rfl rfl hl.1 rfl (lv_room (Nat.le_of_ble_eq_true rfl)) dX0_countWholeAheadOfEaten_24 ⟨Nat.zero_le _, Nat.zero_le _⟩) (fun H locs hWn => ?_)
        replace hW := hWn
        clear hWn hc
        refine lv_iconst (v := 2) hx hb dX0_countWholeAheadOfEaten_27 (by decide) ?_
        refine lv_icmp_ne (tgt := 33) hx hb dX0_countWholeAheadOfEaten_28 (by decide) (fun cq => ?_) (fun cq => ?_)
        · replace h := tn cq h
          refine lv_aload_n hx hb dX0_countWholeAheadOfEaten_33 rfl (lv_at hl 1 rfl) ?_
          refine lv_iload_n hx hb dX0_countWholeAheadOfEaten_34 rfl (lv_at hl 0 rfl) ?_
          replace h := bd h
          obtain ⟨r4, hc, h⟩ := h
          refine r_calli hW (va_runV (As := [.int r2]) (rest := []) hC.1 (c_X0_isWhole l D cy ad A o ho _ _ _ hc) (cwV 1 hts (gdV wd_9 wd_10 wd_11 wd_12 wd_8) rfl rfl rfl (by decide +kernel) ⟨Nat.le_of_ble_eq_true rfl, Nat.le_of_ble_eq_true rfl⟩) (r_preV hC hW (isCoop_b ho 0 (Nat.zero_le _)) ho.2.1 rfl) rfl rfl hl.1 rfl (lv_room (Nat.le_of_ble_eq_true rfl)) dX0_countWholeAheadOfEaten_35 ⟨Nat.zero_le _, Nat.zero_le _⟩) (fun H locs hWn => ?_)
          replace hW := hWn
          clear hWn hc
          refine lv_if_eq (tgt := 44) hx hb dX0_countWholeAheadOfEaten_38 (by decide) (fun cq => ?_) (fun cq => ?_)
          · replace h := tp cq h
            exact J44 _ _ h _ _ hW _ (lv_sub hl [1, 2, 3] rfl)
          · replace h := tn cq h
            replace h := bx h
            obtain ⟨x5, ex5, h⟩ := h
            refine lv_iinc (v := x5) (lv' := [(1, .int x5), (3, .int r2), (0, .ref (ad o)), (2, .int v2)]) hx hb dX0_countWholeAheadOfEaten_41 hl (k := 2) rfl (by rw [ex5]; rfl) (by decide) rfl (fun ls hln => ?_)
            replace hl := hln
            clear hln ex5
            exact J44 _ _ h _ _ hW _ (lv_sub hl [2, 0, 3] rfl)
        · replace h := tp cq h
          refine lv_iload_n hx hb dX0_countWholeAheadOfEaten_31 rfl (lv_at hl 2 rfl) ?_
          exact r_iretP hC hr hlocks h hW dX0_countWholeAheadOfEaten_32
  refine lv_iconst (v := 0) hx hb dX0_countWholeAheadOfEaten_0 (by decide) ?_
  refine lv_istore_n (lv' := [(1, .int 0), (0, .ref (ad o))]) hx hb dX0_countWholeAheadOfEaten_1 rfl hl (by decide) rfl (fun ls hln => ?_)
  replace hl := hln
  clear hln
  refine lv_iconst (v := 0) hx hb dX0_countWholeAheadOfEaten_2 (by decide) ?_
  refine lv_istore_n (lv' := [(2, .int 0), (1, .int 0), (0, .ref (ad o))]) hx hb dX0_countWholeAheadOfEaten_3 rfl hl (by decide) rfl (fun ls hln => ?_)
  replace hl := hln
  clear hln
  exact L4 _ _ _ h _ _ hW _ (lv_sub hl [2, 1, 0] rfl)
set_option maxHeartbeats 4000000 in
set_option maxRecDepth 100000 in
theorem c_X6_bit (l : Launch) (D : va_G) (cy : ClassId × ClassId) (ad : Nat → Nat) (A : Nat → Prop) (p0 : Int32) (σ : Hp) (r : Int32) (h : t_X6_bit p0 = some r) : Ci l yX6_bit us_X6_bit ({ frames := 0, cells := 0, slots := 0, locals := 0 } : Room) D cy 55 shX ad A [.int p0] σ r σ := by
  unfold t_X6_bit at h
  refine Met.ofW (cc := cX6_bit) (maxL := 1) (ret := (some .int)) (by decide) rfl ?_
  intro p e s m args below meth c s₁ B hml hv
  obtain ⟨rfl, hP, hK, hD, hA, hN⟩ := hv
  have hx := B.exec
  have hb := B.bytes
  have hr := B.returns
  have hlocks := B.notSynchronized
  have hts : ∀ w ∈ wsU, w.before _ s = true := fun w h => atoms_spec (ws := us_X6_bit) B.pre w (List.mem_cons_of_mem _ h)
  have hown : s.vm.findClass RX6 = some m.cls := findClass_of_methodNamed B.named
  have hC : Cx p m c cX6_bit 1 s _ wsU RX6 D cy := ⟨⟨hx, hb, hml, hown, hts⟩, hK, hN⟩
  have hW : Wd D cy 55 shX ad A s.heap σ s.heap [] := ⟨hP, hD, va_S.rf, hA⟩
  have hl := lv_entry ([.int p0]) (n := 1) (Nat.le_of_ble_eq_true rfl)
  rw [lg_entry_eq]
  generalize (lg_sl ([.int p0]) ++ List.replicate (1 - (lg_sl ([.int p0])).length) Slot.unset).toArray = ls at hl ⊢
  have hl : lv_has ls 1 [(0, .int p0)] := hl
  refine lv_iconst (v := 1) hx hb dX6_bit_0 (by decide) ?_
  refine lv_iload_n hx hb dX6_bit_1 rfl (lv_at hl 0 rfl) ?_
  refine lv_ishl hx hb dX6_bit_2 ?_
  exact r_iretP hC hr hlocks h hW dX6_bit_3
set_option maxHeartbeats 4000000 in
set_option maxRecDepth 100000 in
theorem c_X0_eatenAheadOfWhole (l : Launch) (D : va_G) (cy : ClassId × ClassId) (ad : Nat → Nat) (A : Nat → Prop) (N : Nat) (o : Nat) (ho : isCoop o) (σ : Hp) (r : Int32) (h : t_X0_eatenAheadOfWhole N o σ = some r) : Ci l yX0_eatenAheadOfWhole us_X0_eatenAheadOfWhole ({ frames := 2, cells := 0, slots := 0, locals := 43 } : Room) D cy 55 shX ad A [.ref (ad o)] σ r σ := by
  unfold t_X0_eatenAheadOfWhole at h
  refine Met.ofW (cc := cX0_eatenAheadOfWhole) (maxL := 5) (ret := (some .int)) (by decide) rfl ?_
  intro p e s m args below meth c s₁ B hml hv
  obtain ⟨rfl, hP, hK, hD, hA, hN⟩ := hv
  have hx := B.exec
  have hb := B.bytes
  have hr := B.returns
  have hlocks := B.notSynchronized
  have hts : ∀ w ∈ wsU, w.before _ s = true := fun w h => atoms_spec (ws := us_X0_eatenAheadOfWhole) B.pre w (List.mem_cons_of_mem _ h)
  have hown : s.vm.findClass RX0 = some m.cls := findClass_of_methodNamed B.named
  have hC : Cx p m c cX0_eatenAheadOfWhole 5 s _ wsU RX0 D cy := ⟨⟨hx, hb, hml, hown, hts⟩, hK, hN⟩
  have hW : Wd D cy 55 shX ad A s.heap σ s.heap [] := ⟨hP, hD, va_S.rf, hA⟩
  have hl := lv_entry ([.ref (ad o)]) (n := 5) (Nat.le_of_ble_eq_true rfl)
  rw [lg_entry_eq]
  generalize (lg_sl ([.ref (ad o)]) ++ List.replicate (5 - (lg_sl ([.ref (ad o)])).length) Slot.unset).toArray = ls at hl ⊢
  have hl : lv_has ls 5 [(0, .ref (ad o))] := hl
  have L11 : ∀ (f : Nat) (v1 : Int32) (v2 : Int32) (v3 : Int32), t_X0_eatenAheadOfWhole_11 N o f v1 v2 v3 σ = some r → ∀ (H : Heap) (locs : List Loc), Wd D cy 55 shX ad A s.heap σ H locs → ∀ ls : Array Slot, lv_has ls 5 [(0, .ref (ad o)), (1, .int v1), (2, .int v2), (3, .int v3)] → Gi p l e us_X0_eatenAheadOfWhole ({ frames := 2, cells := 0, slots := 0, locals := 43 } : Room) s m [.ref (ad o)] below meth c D cy 55 shX ad A r σ H locs (F0 m 11 ls []) := by
    intro f
    unfold t_X0_eatenAheadOfWhole_11
    refine loopG_ind (fun (T : Int32 → Int32 → Int32 → Hp → Option Int32) => ∀ (v1 : Int32) (v2 : Int32) (v3 : Int32), T v1 v2 v3 σ = some r → ∀ (H : Heap) (locs : List Loc), Wd D cy 55 shX ad A s.heap σ H locs → ∀ ls : Array Slot, lv_has ls 5 [(0, .ref (ad o)), (1, .int v1), (2, .int v2), (3, .int v3)] → Gi p l e us_X0_eatenAheadOfWhole ({ frames := 2, cells := 0, slots := 0, locals := 43 } : Room) s m [.ref (ad o)] below meth c D cy 55 shX ad A r σ H locs (F0 m 11 ls [])) ?_ ?_ f
    · intro v1 v2 v3 h; exact absurd h (by simp)
    · intro k11 ih11
      have J62 : ∀ (v1 : Int32) (v2 : Int32) (v3 : Int32), t_X0_eatenAheadOfWhole_62 N o k11 v1 v2 v3 σ = some r → ∀ (H : Heap) (locs : List Loc), Wd D cy 55 shX ad A s.heap σ H locs → ∀ ls : Array Slot, lv_has ls 5 [(0, .ref (ad o)), (1, .int v1), (2, .int v2), (3, .int v3)] → Gi p l e us_X0_eatenAheadOfWhole ({ frames := 2, cells := 0, slots := 0, locals := 43 } : Room) s m [.ref (ad o)] below meth c D cy 55 shX ad A r σ H locs (F0 m 62 ls []) := by
        intro v1 v2 v3 h H locs hW ls hl
        unfold t_X0_eatenAheadOfWhole_62 at h
        replace h := bx h
        obtain ⟨x1, ex1, h⟩ := h
        refine lv_iinc (v := x1) (lv' := [(3, .int x1), (0, .ref (ad o)), (1, .int v1), (2, .int v2)]) hx hb dX0_eatenAheadOfWhole_62 hl (k := 3) rfl (by rw [ex1]; rfl) (by decide) rfl (fun ls hln => ?_)
        replace hl := hln
        clear hln ex1
        refine lv_goto (tgt := 11) hx hb dX0_eatenAheadOfWhole_65 (by decide) ?_
        exact ih11 _ _ _ h _ _ hW _ (lv_sub hl [1, 2, 3, 0] rfl)
      intro v1 v2 v3 h H locs hW ls hl
      refine lv_iload_n hx hb dX0_eatenAheadOfWhole_11 rfl (lv_at hl 3 rfl) ?_
      refine lv_if_lt (tgt := 68) hx hb dX0_eatenAheadOfWhole_12 (by decide) (fun cq => ?_) (fun cq => ?_)
      · replace h := tp cq h
        refine lv_iload_n hx hb dX0_eatenAheadOfWhole_68 rfl (lv_at hl 1 rfl) ?_
        exact r_iretP hC hr hlocks h hW dX0_eatenAheadOfWhole_69
      · replace h := tn cq h
        refine lv_aload_n hx hb dX0_eatenAheadOfWhole_15 rfl (lv_at hl 0 rfl) ?_
        refine r_getr hC hW 2 (isCoop_b ho 0 (Nat.zero_le _)) ho.2.1 rfl rfl (by decide) inUX0 (hts _ wd_22) rfl dX0_eatenAheadOfWhole_16 ?_
        refine lv_iload_n hx hb dX0_eatenAheadOfWhole_19 rfl (lv_at hl 3 rfl) ?_
        replace h := bd h
        obtain ⟨r2, hc, h⟩ := h
        refine r_calli hW (va_runSN (As := [.ref (ad (o + 1)), .int v3]) (rest := []) hC.1 (c_X6_at l D cy ad A (o + 1) 7 ⟨isCoop_b ho 1 (Nat.le_of_ble_eq_true rfl), ho.2.2.1⟩ _ _ _ hc) ⟨va_cnB 2 hts (gdN wd_4) rfl rfl rfl (NL.at hC.2.2 nw_RX0_46 rfl) (hts _ wd_5) (by decide +kernel) ⟨Nat.le_of_ble_eq_true rfl, Nat.le_of_ble_eq_true rfl⟩, hts _ wd_6, trivial⟩ (r_preS hC hW) rfl rfl hl.1 rfl (lv_room (Nat.le_of_ble_eq_true rfl)) dX0_eatenAheadOfWhole_20 ⟨Nat.zero_le _, Nat.zero_le _⟩) (fun H locs hWn => ?_)
        replace hW := hWn
        clear hWn hc
        refine lv_istore (lv' := [(4, .int r2), (0, .ref (ad o)), (1, .int v1), (2, .int v2), (3, .int v3)]) hx hb dX0_eatenAheadOfWhole_23 hl (by decide) rfl (fun ls hln => ?_)
        replace hl := hln
        clear hln
        refine lv_aload_n hx hb dX0_eatenAheadOfWhole_25 rfl (lv_at hl 1 rfl) ?_
        refine lv_iload hx hb dX0_eatenAheadOfWhole_26 (lv_at hl 0 rfl) ?_
        replace h := bd h
        obtain ⟨r3, hc, h⟩ := h
        refine r_calli hW (va_runV (As := [.int r2]) (rest := []) hC.1 (c_X0_isWhole l D cy ad A o ho _ _ _ hc) (cwV 1 hts (gdV wd_9 wd_10 wd_11 wd_12 wd_8) rfl rfl rfl (by decide +kernel) ⟨Nat.le_of_ble_eq_true rfl, Nat.le_of_ble_eq_true rfl⟩) (r_preV hC hW (isCoop_b ho 0 (Nat.zero_le _)) ho.2.1 rfl) rfl rfl hl.1 rfl (lv_room (Nat.le_of_ble_eq_true rfl)) dX0_eatenAheadOfWhole_28 ⟨Nat.zero_le _, Nat.zero_le _⟩) (fun H locs hWn => ?_)
        replace hW := hWn
        clear hWn hc
        refine lv_if_eq (tgt := 39) hx hb dX0_eatenAheadOfWhole_31 (by decide) (fun cq => ?_) (fun cq => ?_)
        · replace h := tp cq h
          refine lv_iload_n hx hb dX0_eatenAheadOfWhole_39 rfl (lv_at hl 3 rfl) ?_
          refine lv_if_eq (tgt := 62) hx hb dX0_eatenAheadOfWhole_40 (by decide) (fun cq => ?_) (fun cq => ?_)
          · replace h := tp cq h
            exact J62 _ _ _ h _ _ hW _ (lv_sub hl [1, 2, 3, 4] rfl)
          · replace h := tn cq h
            refine lv_aload_n hx hb dX0_eatenAheadOfWhole_43 rfl (lv_at hl 1 rfl) ?_
            refine lv_iload hx hb dX0_eatenAheadOfWhole_44 (lv_at hl 0 rfl) ?_
            refine lv_iconst (v := 4) hx hb dX0_eatenAheadOfWhole_46 (by decide) ?_
            replace h := bd h
            obtain ⟨r4, hc, h⟩ := h
            refine r_calli hW (va_runV (As := [.int r2, .int 4]) (rest := []) hC.1 (c_X0_fact l D cy ad A o ho _ _ _ _ hc) (cwV 2 hts (gdV wd_18 wd_19 wd_20 wd_12 wd_17) rfl rfl rfl (by decide +kernel) ⟨Nat.le_of_ble_eq_true rfl, Nat.le_of_ble_eq_true rfl⟩) (r_preV hC hW (isCoop_b ho 0 (Nat.zero_le _)) ho.2.1 rfl) rfl rfl hl.1 rfl (lv_room (Nat.le_of_ble_eq_true rfl)) dX0_eatenAheadOfWhole_47 ⟨Nat.zero_le _, Nat.zero_le _⟩) (fun H locs hWn => ?_)
            replace hW := hWn
            clear hWn hc
            refine lv_iconst (v := 2) hx hb dX0_eatenAheadOfWhole_50 (by decide) ?_
            refine lv_icmp_ne (tgt := 62) hx hb dX0_eatenAheadOfWhole_51 (by decide) (fun cq => ?_) (fun cq => ?_)
            · replace h := tn cq h
              exact J62 _ _ _ h _ _ hW _ (lv_sub hl [1, 2, 3, 4] rfl)
            · replace h := tp cq h
              refine lv_iload_n hx hb dX0_eatenAheadOfWhole_54 rfl (lv_at hl 2 rfl) ?_
              refine lv_iload hx hb dX0_eatenAheadOfWhole_55 (lv_at hl 0 rfl) ?_
              replace h := bd h
              obtain ⟨r5, hc, h⟩ := h
              refine r_calli hW (va_runSN (As := [.int r2]) (rest := [.int v1]) hC.1 (c_X6_bit l D cy ad A _ _ _ hc) ⟨va_cnB 1 hts (gdN wd_25) rfl rfl rfl (NL.at hC.2.2 nw_RX0_61 rfl) (hts _ wd_5) (by decide +kernel) ⟨Nat.le_of_ble_eq_true rfl, Nat.le_of_ble_eq_true rfl⟩, hts _ wd_26, trivial⟩ (r_preS hC hW) rfl rfl hl.1 rfl (lv_room (Nat.le_of_ble_eq_true rfl)) dX0_eatenAheadOfWhole_57 ⟨Nat.zero_le _, Nat.zero_le _⟩) (fun H locs hWn => ?_)
              replace hW := hWn
              clear hWn hc
              refine lv_ior hx hb dX0_eatenAheadOfWhole_60 ?_
              replace h := bx h
              obtain ⟨x6, ex6, h⟩ := h
              refine tope ex6 ?_
              clear ex6
              refine lv_istore_n (lv' := [(1, .int x6), (4, .int r2), (0, .ref (ad o)), (2, .int v2), (3, .int v3)]) hx hb dX0_eatenAheadOfWhole_61 rfl hl (by decide) rfl (fun ls hln => ?_)
              replace hl := hln
              clear hln
              exact J62 _ _ _ h _ _ hW _ (lv_sub hl [2, 0, 3, 4] rfl)
        · replace h := tn cq h
          refine lv_iconst (v := 1) hx hb dX0_eatenAheadOfWhole_34 (by decide) ?_
          refine lv_istore_n (lv' := [(2, .int 1), (4, .int r2), (0, .ref (ad o)), (1, .int v1), (3, .int v3)]) hx hb dX0_eatenAheadOfWhole_35 rfl hl (by decide) rfl (fun ls hln => ?_)
          replace hl := hln
          clear hln
          refine lv_goto (tgt := 62) hx hb dX0_eatenAheadOfWhole_36 (by decide) ?_
          exact J62 _ _ _ h _ _ hW _ (lv_sub hl [2, 3, 0, 4] rfl)
  refine lv_iconst (v := 0) hx hb dX0_eatenAheadOfWhole_0 (by decide) ?_
  refine lv_istore_n (lv' := [(1, .int 0), (0, .ref (ad o))]) hx hb dX0_eatenAheadOfWhole_1 rfl hl (by decide) rfl (fun ls hln => ?_)
  replace hl := hln
  clear hln
  refine lv_iconst (v := 0) hx hb dX0_eatenAheadOfWhole_2 (by decide) ?_
  refine lv_istore_n (lv' := [(2, .int 0), (1, .int 0), (0, .ref (ad o))]) hx hb dX0_eatenAheadOfWhole_3 rfl hl (by decide) rfl (fun ls hln => ?_)
  replace hl := hln
  clear hln
  refine lv_aload_n hx hb dX0_eatenAheadOfWhole_4 rfl (lv_at hl 2 rfl) ?_
  refine r_geti hC hW 0 (isCoop_b ho 0 (Nat.zero_le _)) ho.2.1 rfl rfl (by decide) inUX0 (hts _ wd_7) rfl dX0_eatenAheadOfWhole_5 ?_
  refine lv_iconst (v := 1) hx hb dX0_eatenAheadOfWhole_8 (by decide) ?_
  refine lv_isub hx hb dX0_eatenAheadOfWhole_9 ?_
  replace h := bx h
  obtain ⟨x7, ex7, h⟩ := h
  refine tope ex7 ?_
  clear ex7
  refine lv_istore_n (lv' := [(3, .int x7), (2, .int 0), (1, .int 0), (0, .ref (ad o))]) hx hb dX0_eatenAheadOfWhole_10 rfl hl (by decide) rfl (fun ls hln => ?_)
  replace hl := hln
  clear hln
  exact L11 _ _ _ _ h _ _ hW _ (lv_sub hl [3, 2, 1, 0] rfl)
set_option maxHeartbeats 4000000 in
set_option maxRecDepth 100000 in
theorem c_X0_has (l : Launch) (D : va_G) (cy : ClassId × ClassId) (ad : Nat → Nat) (A : Nat → Prop) (o : Nat) (ho : isCoop o) (p0 : Int32) (σ : Hp) (r : Int32) (h : t_X0_has o p0 σ = some r) : Ci l yX0_has us_X0_has ({ frames := 0, cells := 0, slots := 0, locals := 0 } : Room) D cy 55 shX ad A [.ref (ad o), .int p0] σ r σ := by
  unfold t_X0_has at h
  refine Met.ofW (cc := cX0_has) (maxL := 2) (ret := (some .boolean)) (by decide) rfl ?_
  intro p e s m args below meth c s₁ B hml hv
  obtain ⟨rfl, hP, hK, hD, hA, hN⟩ := hv
  have hx := B.exec
  have hb := B.bytes
  have hr := B.returns
  have hlocks := B.notSynchronized
  have hts : ∀ w ∈ wsU, w.before _ s = true := fun w h => atoms_spec (ws := us_X0_has) B.pre w (List.mem_cons_of_mem _ h)
  have hown : s.vm.findClass RX0 = some m.cls := findClass_of_methodNamed B.named
  have hC : Cx p m c cX0_has 2 s _ wsU RX0 D cy := ⟨⟨hx, hb, hml, hown, hts⟩, hK, hN⟩
  have hW : Wd D cy 55 shX ad A s.heap σ s.heap [] := ⟨hP, hD, va_S.rf, hA⟩
  have hl := lv_entry ([.ref (ad o), .int p0]) (n := 2) (Nat.le_of_ble_eq_true rfl)
  rw [lg_entry_eq]
  generalize (lg_sl ([.ref (ad o), .int p0]) ++ List.replicate (2 - (lg_sl ([.ref (ad o), .int p0])).length) Slot.unset).toArray = ls at hl ⊢
  have hl : lv_has ls 2 [(0, .ref (ad o)), (1, .int p0)] := hl
  have J16 : t_X0_has_16 o  σ = some r → ∀ (H : Heap) (locs : List Loc), Wd D cy 55 shX ad A s.heap σ H locs → ∀ ls : Array Slot, lv_has ls 2 [] → Gi p l e us_X0_has ({ frames := 0, cells := 0, slots := 0, locals := 0 } : Room) s m [.ref (ad o), .int p0] below meth c D cy 55 shX ad A r σ H locs (F0 m 16 ls []) := by
    intro  h H locs hW ls hl
    unfold t_X0_has_16 at h
    refine lv_iconst (v := 0) hx hb dX0_has_16 (by decide) ?_
    exact r_zretP (Or.inl rfl) hC hr hlocks h hW dX0_has_17
  refine lv_iload_n hx hb dX0_has_0 rfl (lv_at hl 1 rfl) ?_
  refine lv_if_lt (tgt := 16) hx hb dX0_has_1 (by decide) (fun cq => ?_) (fun cq => ?_)
  · replace h := tp cq h
    exact J16  h _ _ hW _ (lv_sub hl [] rfl)
  · replace h := tn cq h
    refine lv_iload_n hx hb dX0_has_4 rfl (lv_at hl 1 rfl) ?_
    refine lv_aload_n hx hb dX0_has_5 rfl (lv_at hl 0 rfl) ?_
    refine r_geti hC hW 0 (isCoop_b ho 0 (Nat.zero_le _)) ho.2.1 rfl rfl (by decide) inUX0 (hts _ wd_7) rfl dX0_has_6 ?_
    refine lv_icmp_ge (tgt := 16) hx hb dX0_has_9 (by decide) (fun cq => ?_) (fun cq => ?_)
    · replace h := tp cq h
      exact J16  h _ _ hW _ (lv_sub hl [] rfl)
    · replace h := tn cq h
      refine lv_iconst (v := 1) hx hb dX0_has_12 (by decide) ?_
      refine lv_goto (tgt := 17) hx hb dX0_has_13 (by decide) ?_
      exact r_zretP (Or.inr rfl) hC hr hlocks h hW dX0_has_17
set_option maxHeartbeats 4000000 in
set_option maxRecDepth 100000 in
theorem c_X0_isWarmEnough (l : Launch) (D : va_G) (cy : ClassId × ClassId) (ad : Nat → Nat) (A : Nat → Prop) (o : Nat) (ho : isCoop o) (p0 : Int32) (σ : Hp) (r : Int32) (h : t_X0_isWarmEnough o p0 σ = some r) : Ci l yX0_isWarmEnough us_X0_isWarmEnough ({ frames := 1, cells := 0, slots := 0, locals := 21 } : Room) D cy 55 shX ad A [.ref (ad o), .int p0] σ r σ := by
  unfold t_X0_isWarmEnough at h
  refine Met.ofW (cc := cX0_isWarmEnough) (maxL := 2) (ret := (some .boolean)) (by decide) rfl ?_
  intro p e s m args below meth c s₁ B hml hv
  obtain ⟨rfl, hP, hK, hD, hA, hN⟩ := hv
  have hx := B.exec
  have hb := B.bytes
  have hr := B.returns
  have hlocks := B.notSynchronized
  have hts : ∀ w ∈ wsU, w.before _ s = true := fun w h => atoms_spec (ws := us_X0_isWarmEnough) B.pre w (List.mem_cons_of_mem _ h)
  have hown : s.vm.findClass RX0 = some m.cls := findClass_of_methodNamed B.named
  have hC : Cx p m c cX0_isWarmEnough 2 s _ wsU RX0 D cy := ⟨⟨hx, hb, hml, hown, hts⟩, hK, hN⟩
  have hW : Wd D cy 55 shX ad A s.heap σ s.heap [] := ⟨hP, hD, va_S.rf, hA⟩
  have hl := lv_entry ([.ref (ad o), .int p0]) (n := 2) (Nat.le_of_ble_eq_true rfl)
  rw [lg_entry_eq]
  generalize (lg_sl ([.ref (ad o), .int p0]) ++ List.replicate (2 - (lg_sl ([.ref (ad o), .int p0])).length) Slot.unset).toArray = ls at hl ⊢
  have hl : lv_has ls 2 [(0, .ref (ad o)), (1, .int p0)] := hl
  refine lv_aload_n hx hb dX0_isWarmEnough_0 rfl (lv_at hl 0 rfl) ?_
  refine r_getr hC hW 3 (isCoop_b ho 0 (Nat.zero_le _)) ho.2.1 rfl rfl (by decide) inUX0 (hts _ wd_3) rfl dX0_isWarmEnough_1 ?_
  refine lv_iload_n hx hb dX0_isWarmEnough_4 rfl (lv_at hl 1 rfl) ?_
  refine lv_iconst (v := 5) hx hb dX0_isWarmEnough_5 (by decide) ?_
  refine lv_imul hx hb dX0_isWarmEnough_6 ?_
  refine lv_iconst (v := 1) hx hb dX0_isWarmEnough_7 (by decide) ?_
  refine lv_iadd hx hb dX0_isWarmEnough_8 ?_
  replace h := bd h
  obtain ⟨r1, hc, h⟩ := h
  refine r_calli hW (va_runSN (As := [.ref (ad (o + 2)), .int ((p0 * 5) + 1)]) (rest := []) hC.1 (c_X6_at l D cy ad A (o + 2) 35 ⟨isCoop_b ho 2 (Nat.le_of_ble_eq_true rfl), ho.2.2.2⟩ _ _ _ hc) ⟨va_cnB 2 hts (gdN wd_4) rfl rfl rfl (NL.at hC.2.2 nw_RX0_46 rfl) (hts _ wd_5) (by decide +kernel) ⟨Nat.le_of_ble_eq_true rfl, Nat.le_of_ble_eq_true rfl⟩, hts _ wd_6, trivial⟩ (r_preS hC hW) rfl rfl hl.1 rfl (lv_room (Nat.le_of_ble_eq_true rfl)) dX0_isWarmEnough_9 ⟨Nat.zero_le _, Nat.zero_le _⟩) (fun H locs hWn => ?_)
  replace hW := hWn
  clear hWn hc
  refine lv_aload_n hx hb dX0_isWarmEnough_12 rfl (lv_at hl 0 rfl) ?_
  refine r_getr hC hW 3 (isCoop_b ho 0 (Nat.zero_le _)) ho.2.1 rfl rfl (by decide) inUX0 (hts _ wd_3) rfl dX0_isWarmEnough_13 ?_
  refine lv_iload_n hx hb dX0_isWarmEnough_16 rfl (lv_at hl 1 rfl) ?_
  refine lv_iconst (v := 5) hx hb dX0_isWarmEnough_17 (by decide) ?_
  refine lv_imul hx hb dX0_isWarmEnough_18 ?_
  refine lv_iconst (v := 0) hx hb dX0_isWarmEnough_19 (by decide) ?_
  refine lv_iadd hx hb dX0_isWarmEnough_20 ?_
  replace h := bd h
  obtain ⟨r2, hc, h⟩ := h
  refine r_calli hW (va_runSN (As := [.ref (ad (o + 2)), .int ((p0 * 5) + 0)]) (rest := [.int r1]) hC.1 (c_X6_at l D cy ad A (o + 2) 35 ⟨isCoop_b ho 2 (Nat.le_of_ble_eq_true rfl), ho.2.2.2⟩ _ _ _ hc) ⟨va_cnB 2 hts (gdN wd_4) rfl rfl rfl (NL.at hC.2.2 nw_RX0_46 rfl) (hts _ wd_5) (by decide +kernel) ⟨Nat.le_of_ble_eq_true rfl, Nat.le_of_ble_eq_true rfl⟩, hts _ wd_6, trivial⟩ (r_preS hC hW) rfl rfl hl.1 rfl (lv_room (Nat.le_of_ble_eq_true rfl)) dX0_isWarmEnough_21 ⟨Nat.zero_le _, Nat.zero_le _⟩) (fun H locs hWn => ?_)
  replace hW := hWn
  clear hWn hc
  refine lv_icmp_lt (tgt := 31) hx hb dX0_isWarmEnough_24 (by decide) (fun cq => ?_) (fun cq => ?_)
  · replace h := tp cq h
    refine lv_iconst (v := 0) hx hb dX0_isWarmEnough_31 (by decide) ?_
    exact r_zretP (Or.inl rfl) hC hr hlocks h hW dX0_isWarmEnough_32
  · replace h := tn cq h
    refine lv_iconst (v := 1) hx hb dX0_isWarmEnough_27 (by decide) ?_
    refine lv_goto (tgt := 32) hx hb dX0_isWarmEnough_28 (by decide) ?_
    exact r_zretP (Or.inr rfl) hC hr hlocks h hW dX0_isWarmEnough_32
set_option maxHeartbeats 4000000 in
set_option maxRecDepth 100000 in
theorem c_X6_hasBit (l : Launch) (D : va_G) (cy : ClassId × ClassId) (ad : Nat → Nat) (A : Nat → Prop) (p0 : Int32) (p1 : Int32) (σ : Hp) (r : Int32) (h : t_X6_hasBit p0 p1 = some r) : Ci l yX6_hasBit us_X6_hasBit ({ frames := 0, cells := 0, slots := 0, locals := 0 } : Room) D cy 55 shX ad A [.int p0, .int p1] σ r σ := by
  unfold t_X6_hasBit at h
  refine Met.ofW (cc := cX6_hasBit) (maxL := 2) (ret := (some .boolean)) (by decide) rfl ?_
  intro p e s m args below meth c s₁ B hml hv
  obtain ⟨rfl, hP, hK, hD, hA, hN⟩ := hv
  have hx := B.exec
  have hb := B.bytes
  have hr := B.returns
  have hlocks := B.notSynchronized
  have hts : ∀ w ∈ wsU, w.before _ s = true := fun w h => atoms_spec (ws := us_X6_hasBit) B.pre w (List.mem_cons_of_mem _ h)
  have hown : s.vm.findClass RX6 = some m.cls := findClass_of_methodNamed B.named
  have hC : Cx p m c cX6_hasBit 2 s _ wsU RX6 D cy := ⟨⟨hx, hb, hml, hown, hts⟩, hK, hN⟩
  have hW : Wd D cy 55 shX ad A s.heap σ s.heap [] := ⟨hP, hD, va_S.rf, hA⟩
  have hl := lv_entry ([.int p0, .int p1]) (n := 2) (Nat.le_of_ble_eq_true rfl)
  rw [lg_entry_eq]
  generalize (lg_sl ([.int p0, .int p1]) ++ List.replicate (2 - (lg_sl ([.int p0, .int p1])).length) Slot.unset).toArray = ls at hl ⊢
  have hl : lv_has ls 2 [(0, .int p0), (1, .int p1)] := hl
  refine lv_iload_n hx hb dX6_hasBit_0 rfl (lv_at hl 0 rfl) ?_
  refine lv_iload_n hx hb dX6_hasBit_1 rfl (lv_at hl 1 rfl) ?_
  refine lv_ishr hx hb dX6_hasBit_2 ?_
  refine lv_iconst (v := 1) hx hb dX6_hasBit_3 (by decide) ?_
  refine lv_iand hx hb dX6_hasBit_4 ?_
  refine lv_if_eq (tgt := 12) hx hb dX6_hasBit_5 (by decide) (fun cq => ?_) (fun cq => ?_)
  · replace h := tp cq h
    refine lv_iconst (v := 0) hx hb dX6_hasBit_12 (by decide) ?_
    exact r_zretP (Or.inl rfl) hC hr hlocks h hW dX6_hasBit_13
  · replace h := tn cq h
    refine lv_iconst (v := 1) hx hb dX6_hasBit_8 (by decide) ?_
    refine lv_goto (tgt := 13) hx hb dX6_hasBit_9 (by decide) ?_
    exact r_zretP (Or.inr rfl) hC hr hlocks h hW dX6_hasBit_13
set_option maxHeartbeats 4000000 in
set_option maxRecDepth 100000 in
theorem c_X0_hatchingIfHeated (l : Launch) (D : va_G) (cy : ClassId × ClassId) (ad : Nat → Nat) (A : Nat → Prop) (N : Nat) (o : Nat) (ho : isCoop o) (p0 : Int32) (σ : Hp) (r : Int32) (h : t_X0_hatchingIfHeated N o p0 σ = some r) : Ci l yX0_hatchingIfHeated us_X0_hatchingIfHeated ({ frames := 2, cells := 0, slots := 0, locals := 43 } : Room) D cy 55 shX ad A [.ref (ad o), .int p0] σ r σ := by
  unfold t_X0_hatchingIfHeated at h
  refine Met.ofW (cc := cX0_hatchingIfHeated) (maxL := 7) (ret := (some .int)) (by decide) rfl ?_
  intro p e s m args below meth c s₁ B hml hv
  obtain ⟨rfl, hP, hK, hD, hA, hN⟩ := hv
  have hx := B.exec
  have hb := B.bytes
  have hr := B.returns
  have hlocks := B.notSynchronized
  have hts : ∀ w ∈ wsU, w.before _ s = true := fun w h => atoms_spec (ws := us_X0_hatchingIfHeated) B.pre w (List.mem_cons_of_mem _ h)
  have hown : s.vm.findClass RX0 = some m.cls := findClass_of_methodNamed B.named
  have hC : Cx p m c cX0_hatchingIfHeated 7 s _ wsU RX0 D cy := ⟨⟨hx, hb, hml, hown, hts⟩, hK, hN⟩
  have hW : Wd D cy 55 shX ad A s.heap σ s.heap [] := ⟨hP, hD, va_S.rf, hA⟩
  have hl := lv_entry ([.ref (ad o), .int p0]) (n := 7) (Nat.le_of_ble_eq_true rfl)
  rw [lg_entry_eq]
  generalize (lg_sl ([.ref (ad o), .int p0]) ++ List.replicate (7 - (lg_sl ([.ref (ad o), .int p0])).length) Slot.unset).toArray = ls at hl ⊢
  have hl : lv_has ls 7 [(0, .ref (ad o)), (1, .int p0)] := hl
  have L4 : ∀ (f : Nat) (v1 : Int32) (v2 : Int32) (v3 : Int32), t_X0_hatchingIfHeated_4 N o f v1 v2 v3 σ = some r → ∀ (H : Heap) (locs : List Loc), Wd D cy 55 shX ad A s.heap σ H locs → ∀ ls : Array Slot, lv_has ls 7 [(0, .ref (ad o)), (1, .int v1), (2, .int v2), (3, .int v3)] → Gi p l e us_X0_hatchingIfHeated ({ frames := 2, cells := 0, slots := 0, locals := 43 } : Room) s m [.ref (ad o), .int p0] below meth c D cy 55 shX ad A r σ H locs (F0 m 4 ls []) := by
    intro f
    unfold t_X0_hatchingIfHeated_4
    refine loopG_ind (fun (T : Int32 → Int32 → Int32 → Hp → Option Int32) => ∀ (v1 : Int32) (v2 : Int32) (v3 : Int32), T v1 v2 v3 σ = some r → ∀ (H : Heap) (locs : List Loc), Wd D cy 55 shX ad A s.heap σ H locs → ∀ ls : Array Slot, lv_has ls 7 [(0, .ref (ad o)), (1, .int v1), (2, .int v2), (3, .int v3)] → Gi p l e us_X0_hatchingIfHeated ({ frames := 2, cells := 0, slots := 0, locals := 43 } : Room) s m [.ref (ad o), .int p0] below meth c D cy 55 shX ad A r σ H locs (F0 m 4 ls [])) ?_ ?_ f
    · intro v1 v2 v3 h; exact absurd h (by simp)
    · intro k4 ih4
      have J91 : ∀ (v1 : Int32) (v2 : Int32) (v3 : Int32), t_X0_hatchingIfHeated_91 N o k4 v1 v2 v3 σ = some r → ∀ (H : Heap) (locs : List Loc), Wd D cy 55 shX ad A s.heap σ H locs → ∀ ls : Array Slot, lv_has ls 7 [(0, .ref (ad o)), (1, .int v1), (2, .int v2), (3, .int v3)] → Gi p l e us_X0_hatchingIfHeated ({ frames := 2, cells := 0, slots := 0, locals := 43 } : Room) s m [.ref (ad o), .int p0] below meth c D cy 55 shX ad A r σ H locs (F0 m 91 ls []) := by
        intro v1 v2 v3 h H locs hW ls hl
        unfold t_X0_hatchingIfHeated_91 at h
        replace h := bx h
        obtain ⟨x1, ex1, h⟩ := h
        refine lv_iinc (v := x1) (lv' := [(3, .int x1), (0, .ref (ad o)), (1, .int v1), (2, .int v2)]) hx hb dX0_hatchingIfHeated_91 hl (k := 3) rfl (by rw [ex1]; rfl) (by decide) rfl (fun ls hln => ?_)
        replace hl := hln
        clear hln ex1
        refine lv_goto (tgt := 4) hx hb dX0_hatchingIfHeated_94 (by decide) ?_
        exact ih4 _ _ _ h _ _ hW _ (lv_sub hl [1, 2, 3, 0] rfl)
      have J68 : ∀ (v1 : Int32) (v2 : Int32) (v3 : Int32) (v4 : Int32) (v5 : Int32) (s0 : Int32), t_X0_hatchingIfHeated_68 N o k4 v1 v2 v3 v4 v5 s0 σ = some r → ∀ (H : Heap) (locs : List Loc), Wd D cy 55 shX ad A s.heap σ H locs → ∀ ls : Array Slot, lv_has ls 7 [(0, .ref (ad o)), (1, .int v1), (2, .int v2), (3, .int v3), (4, .int v4), (5, .int v5)] → Gi p l e us_X0_hatchingIfHeated ({ frames := 2, cells := 0, slots := 0, locals := 43 } : Room) s m [.ref (ad o), .int p0] below meth c D cy 55 shX ad A r σ H locs (F0 m 68 ls [.int s0]) := by
        intro v1 v2 v3 v4 v5 s0 h H locs hW ls hl
        unfold t_X0_hatchingIfHeated_68 at h
        refine lv_istore (lv' := [(6, .int s0), (0, .ref (ad o)), (1, .int v1), (2, .int v2), (3, .int v3), (4, .int v4), (5, .int v5)]) hx hb dX0_hatchingIfHeated_68 hl (by decide) rfl (fun ls hln => ?_)
        replace hl := hln
        clear hln
        refine lv_iload hx hb dX0_hatchingIfHeated_70 (lv_at hl 6 rfl) ?_
        refine lv_iconst (v := 2) hx hb dX0_hatchingIfHeated_72 (by decide) ?_
        refine lv_icmp_eq (tgt := 81) hx hb dX0_hatchingIfHeated_73 (by decide) (fun cq => ?_) (fun cq => ?_)
        · replace h := tp cq h
          refine lv_iload_n hx hb dX0_hatchingIfHeated_81 rfl (lv_at hl 3 rfl) ?_
          exact r_iretP hC hr hlocks h hW dX0_hatchingIfHeated_82
        · replace h := tn cq h
          refine lv_iload hx hb dX0_hatchingIfHeated_76 (lv_at hl 0 rfl) ?_
          refine lv_if_ne (tgt := 83) hx hb dX0_hatchingIfHeated_78 (by decide) (fun cq => ?_) (fun cq => ?_)
          · replace h := tn cq h
            refine lv_iload_n hx hb dX0_hatchingIfHeated_83 rfl (lv_at hl 3 rfl) ?_
            refine lv_iload hx hb dX0_hatchingIfHeated_84 (lv_at hl 5 rfl) ?_
            replace h := bd h
            obtain ⟨r2, hc, h⟩ := h
            refine r_calli hW (va_runSN (As := [.int v4]) (rest := [.int v2]) hC.1 (c_X6_bit l D cy ad A _ _ _ hc) ⟨va_cnB 1 hts (gdN wd_25) rfl rfl rfl (NL.at hC.2.2 nw_RX0_61 rfl) (hts _ wd_5) (by decide +kernel) ⟨Nat.le_of_ble_eq_true rfl, Nat.le_of_ble_eq_true rfl⟩, hts _ wd_26, trivial⟩ (r_preS hC hW) rfl rfl hl.1 rfl (lv_room (Nat.le_of_ble_eq_true rfl)) dX0_hatchingIfHeated_86 ⟨Nat.zero_le _, Nat.zero_le _⟩) (fun H locs hWn => ?_)
            replace hW := hWn
            clear hWn hc
            refine lv_ior hx hb dX0_hatchingIfHeated_89 ?_
            replace h := bx h
            obtain ⟨x3, ex3, h⟩ := h
            refine tope ex3 ?_
            clear ex3
            refine lv_istore_n (lv' := [(2, .int x3), (6, .int s0), (0, .ref (ad o)), (1, .int v1), (3, .int v3), (4, .int v4), (5, .int v5)]) hx hb dX0_hatchingIfHeated_90 rfl hl (by decide) rfl (fun ls hln => ?_)
            replace hl := hln
            clear hln
            exact J91 _ _ _ h _ _ hW _ (lv_sub hl [2, 3, 0, 4] rfl)
          · replace h := tp cq h
            refine lv_iload_n hx hb dX0_hatchingIfHeated_81 rfl (lv_at hl 3 rfl) ?_
            exact r_iretP hC hr hlocks h hW dX0_hatchingIfHeated_82
      have J63 : ∀ (v1 : Int32) (v2 : Int32) (v3 : Int32) (v4 : Int32) (v5 : Int32), t_X0_hatchingIfHeated_63 N o k4 v1 v2 v3 v4 v5 σ = some r → ∀ (H : Heap) (locs : List Loc), Wd D cy 55 shX ad A s.heap σ H locs → ∀ ls : Array Slot, lv_has ls 7 [(0, .ref (ad o)), (1, .int v1), (2, .int v2), (3, .int v3), (4, .int v4), (5, .int v5)] → Gi p l e us_X0_hatchingIfHeated ({ frames := 2, cells := 0, slots := 0, locals := 43 } : Room) s m [.ref (ad o), .int p0] below meth c D cy 55 shX ad A r σ H locs (F0 m 63 ls []) := by
        intro v1 v2 v3 v4 v5 h H locs hW ls hl
        unfold t_X0_hatchingIfHeated_63 at h
        refine lv_iconst (v := 1) hx hb dX0_hatchingIfHeated_63 (by decide) ?_
        refine lv_goto (tgt := 68) hx hb dX0_hatchingIfHeated_64 (by decide) ?_
        exact J68 _ _ _ _ _ _ h _ _ hW _ (lv_sub hl [0, 1, 2, 3, 4, 5] rfl)
      intro v1 v2 v3 h H locs hW ls hl
      refine lv_iload_n hx hb dX0_hatchingIfHeated_4 rfl (lv_at hl 3 rfl) ?_
      refine lv_aload_n hx hb dX0_hatchingIfHeated_5 rfl (lv_at hl 0 rfl) ?_
      refine r_geti hC hW 0 (isCoop_b ho 0 (Nat.zero_le _)) ho.2.1 rfl rfl (by decide) inUX0 (hts _ wd_7) rfl dX0_hatchingIfHeated_6 ?_
      refine lv_icmp_ge (tgt := 97) hx hb dX0_hatchingIfHeated_9 (by decide) (fun cq => ?_) (fun cq => ?_)
      · replace h := tp cq h
        refine lv_iload_n hx hb dX0_hatchingIfHeated_97 rfl (lv_at hl 2 rfl) ?_
        exact r_iretP hC hr hlocks h hW dX0_hatchingIfHeated_98
      · replace h := tn cq h
        refine lv_aload_n hx hb dX0_hatchingIfHeated_12 rfl (lv_at hl 0 rfl) ?_
        refine r_getr hC hW 2 (isCoop_b ho 0 (Nat.zero_le _)) ho.2.1 rfl rfl (by decide) inUX0 (hts _ wd_22) rfl dX0_hatchingIfHeated_13 ?_
        refine lv_iload_n hx hb dX0_hatchingIfHeated_16 rfl (lv_at hl 3 rfl) ?_
        replace h := bd h
        obtain ⟨r4, hc, h⟩ := h
        refine r_calli hW (va_runSN (As := [.ref (ad (o + 1)), .int v3]) (rest := []) hC.1 (c_X6_at l D cy ad A (o + 1) 7 ⟨isCoop_b ho 1 (Nat.le_of_ble_eq_true rfl), ho.2.2.1⟩ _ _ _ hc) ⟨va_cnB 2 hts (gdN wd_4) rfl rfl rfl (NL.at hC.2.2 nw_RX0_46 rfl) (hts _ wd_5) (by decide +kernel) ⟨Nat.le_of_ble_eq_true rfl, Nat.le_of_ble_eq_true rfl⟩, hts _ wd_6, trivial⟩ (r_preS hC hW) rfl rfl hl.1 rfl (lv_room (Nat.le_of_ble_eq_true rfl)) dX0_hatchingIfHeated_17 ⟨Nat.zero_le _, Nat.zero_le _⟩) (fun H locs hWn => ?_)
        replace hW := hWn
        clear hWn hc
        refine lv_istore (lv' := [(4, .int r4), (0, .ref (ad o)), (1, .int v1), (2, .int v2), (3, .int v3)]) hx hb dX0_hatchingIfHeated_20 hl (by decide) rfl (fun ls hln => ?_)
        replace hl := hln
        clear hln
        refine lv_aload_n hx hb dX0_hatchingIfHeated_22 rfl (lv_at hl 1 rfl) ?_
        refine lv_iload hx hb dX0_hatchingIfHeated_23 (lv_at hl 0 rfl) ?_
        refine lv_iconst (v := 4) hx hb dX0_hatchingIfHeated_25 (by decide) ?_
        replace h := bd h
        obtain ⟨r5, hc, h⟩ := h
        refine r_calli hW (va_runV (As := [.int r4, .int 4]) (rest := []) hC.1 (c_X0_fact l D cy ad A o ho _ _ _ _ hc) (cwV 2 hts (gdV wd_18 wd_19 wd_20 wd_12 wd_17) rfl rfl rfl (by decide +kernel) ⟨Nat.le_of_ble_eq_true rfl, Nat.le_of_ble_eq_true rfl⟩) (r_preV hC hW (isCoop_b ho 0 (Nat.zero_le _)) ho.2.1 rfl) rfl rfl hl.1 rfl (lv_room (Nat.le_of_ble_eq_true rfl)) dX0_hatchingIfHeated_26 ⟨Nat.zero_le _, Nat.zero_le _⟩) (fun H locs hWn => ?_)
        replace hW := hWn
        clear hWn hc
        refine lv_istore (lv' := [(5, .int r5), (4, .int r4), (0, .ref (ad o)), (1, .int v1), (2, .int v2), (3, .int v3)]) hx hb dX0_hatchingIfHeated_29 hl (by decide) rfl (fun ls hln => ?_)
        replace hl := hln
        clear hln
        refine lv_iload hx hb dX0_hatchingIfHeated_31 (lv_at hl 0 rfl) ?_
        refine lv_iconst (v := 1) hx hb dX0_hatchingIfHeated_33 (by decide) ?_
        refine lv_icmp_ne (tgt := 40) hx hb dX0_hatchingIfHeated_34 (by decide) (fun cq => ?_) (fun cq => ?_)
        · replace h := tn cq h
          refine lv_aload_n hx hb dX0_hatchingIfHeated_40 rfl (lv_at hl 2 rfl) ?_
          refine lv_iload hx hb dX0_hatchingIfHeated_41 (lv_at hl 1 rfl) ?_
          replace h := bd h
          obtain ⟨r6, hc, h⟩ := h
          refine r_calli hW (va_runV (As := [.int r4]) (rest := []) hC.1 (c_X0_isWarmEnough l D cy ad A o ho _ _ _ hc) (cwV 1 hts (gdV wd_28 wd_29 wd_30 wd_12 wd_27) rfl rfl rfl (by decide +kernel) ⟨Nat.le_of_ble_eq_true rfl, Nat.le_of_ble_eq_true rfl⟩) (r_preV hC hW (isCoop_b ho 0 (Nat.zero_le _)) ho.2.1 rfl) rfl rfl hl.1 rfl (lv_room (Nat.le_of_ble_eq_true rfl)) dX0_hatchingIfHeated_43 ⟨Nat.zero_le _, Nat.zero_le _⟩) (fun H locs hWn => ?_)
          replace hW := hWn
          clear hWn hc
          refine lv_if_ne (tgt := 63) hx hb dX0_hatchingIfHeated_46 (by decide) (fun cq => ?_) (fun cq => ?_)
          · replace h := tn cq h
            exact J63 _ _ _ _ _ h _ _ hW _ (lv_sub hl [2, 3, 4, 5, 1, 0] rfl)
          · replace h := tp cq h
            refine lv_iload_n hx hb dX0_hatchingIfHeated_49 rfl (lv_at hl 3 rfl) ?_
            refine lv_aload_n hx hb dX0_hatchingIfHeated_50 rfl (lv_at hl 2 rfl) ?_
            refine lv_iload hx hb dX0_hatchingIfHeated_51 (lv_at hl 1 rfl) ?_
            refine lv_iconst (v := 3) hx hb dX0_hatchingIfHeated_53 (by decide) ?_
            replace h := bd h
            obtain ⟨r7, hc, h⟩ := h
            refine r_calli hW (va_runV (As := [.int r4, .int 3]) (rest := [.int v1]) hC.1 (c_X0_fact l D cy ad A o ho _ _ _ _ hc) (cwV 2 hts (gdV wd_18 wd_19 wd_20 wd_12 wd_17) rfl rfl rfl (by decide +kernel) ⟨Nat.le_of_ble_eq_true rfl, Nat.le_of_ble_eq_true rfl⟩) (r_preV hC hW (isCoop_b ho 0 (Nat.zero_le _)) ho.2.1 rfl) rfl rfl hl.1 rfl (lv_room (Nat.le_of_ble_eq_true rfl)) dX0_hatchingIfHeated_54 ⟨Nat.zero_le _, Nat.zero_le _⟩) (fun H locs hWn => ?_)
            replace hW := hWn
            clear hWn hc
            replace h := bd h
            obtain ⟨r8, hc, h⟩ := h
            refine r_calli hW (va_runSN (As := [.int v1, .int r7]) (rest := []) hC.1 (c_X6_hasBit l D cy ad A _ _ _ _ hc) ⟨va_cnB 2 hts (gdN wd_31) rfl rfl rfl (NL.at hC.2.2 nw_RX0_71 rfl) (hts _ wd_5) (by decide +kernel) ⟨Nat.le_of_ble_eq_true rfl, Nat.le_of_ble_eq_true rfl⟩, hts _ wd_32, trivial⟩ (r_preS hC hW) rfl rfl hl.1 rfl (lv_room (Nat.le_of_ble_eq_true rfl)) dX0_hatchingIfHeated_57 ⟨Nat.zero_le _, Nat.zero_le _⟩) (fun H locs hWn => ?_)
            replace hW := hWn
            clear hWn hc
            refine lv_if_eq (tgt := 67) hx hb dX0_hatchingIfHeated_60 (by decide) (fun cq => ?_) (fun cq => ?_)
            · replace h := tp cq h
              refine lv_iconst (v := 0) hx hb dX0_hatchingIfHeated_67 (by decide) ?_
              exact J68 _ _ _ _ _ _ h _ _ hW _ (lv_sub hl [2, 3, 4, 5, 1, 0] rfl)
            · replace h := tn cq h
              exact J63 _ _ _ _ _ h _ _ hW _ (lv_sub hl [2, 3, 4, 5, 1, 0] rfl)
        · replace h := tp cq h
          refine lv_goto (tgt := 91) hx hb dX0_hatchingIfHeated_37 (by decide) ?_
          exact J91 _ _ _ h _ _ hW _ (lv_sub hl [2, 3, 4, 5] rfl)
  refine lv_iconst (v := 0) hx hb dX0_hatchingIfHeated_0 (by decide) ?_
  refine lv_istore_n (lv' := [(2, .int 0), (0, .ref (ad o)), (1, .int p0)]) hx hb dX0_hatchingIfHeated_1 rfl hl (by decide) rfl (fun ls hln => ?_)
  replace hl := hln
  clear hln
  refine lv_iconst (v := 0) hx hb dX0_hatchingIfHeated_2 (by decide) ?_
  refine lv_istore_n (lv' := [(3, .int 0), (2, .int 0), (0, .ref (ad o)), (1, .int p0)]) hx hb dX0_hatchingIfHeated_3 rfl hl (by decide) rfl (fun ls hln => ?_)
  replace hl := hln
  clear hln
  exact L4 _ _ _ _ h _ _ hW _ (lv_sub hl [2, 3, 1, 0] rfl)
set_option maxHeartbeats 4000000 in
set_option maxRecDepth 100000 in
theorem c_X0_hoursToHeat (l : Launch) (D : va_G) (cy : ClassId × ClassId) (ad : Nat → Nat) (A : Nat → Prop) (N : Nat) (o : Nat) (ho : isCoop o) (p0 : Int32) (σ : Hp) (r : Int32) (h : t_X0_hoursToHeat N o p0 σ = some r) : Ci l yX0_hoursToHeat us_X0_hoursToHeat ({ frames := 2, cells := 0, slots := 0, locals := 43 } : Room) D cy 55 shX ad A [.ref (ad o), .int p0] σ r σ := by
  unfold t_X0_hoursToHeat at h
  refine Met.ofW (cc := cX0_hoursToHeat) (maxL := 4) (ret := (some .int)) (by decide) rfl ?_
  intro p e s m args below meth c s₁ B hml hv
  obtain ⟨rfl, hP, hK, hD, hA, hN⟩ := hv
  have hx := B.exec
  have hb := B.bytes
  have hr := B.returns
  have hlocks := B.notSynchronized
  have hts : ∀ w ∈ wsU, w.before _ s = true := fun w h => atoms_spec (ws := us_X0_hoursToHeat) B.pre w (List.mem_cons_of_mem _ h)
  have hown : s.vm.findClass RX0 = some m.cls := findClass_of_methodNamed B.named
  have hC : Cx p m c cX0_hoursToHeat 4 s _ wsU RX0 D cy := ⟨⟨hx, hb, hml, hown, hts⟩, hK, hN⟩
  have hW : Wd D cy 55 shX ad A s.heap σ s.heap [] := ⟨hP, hD, va_S.rf, hA⟩
  have hl := lv_entry ([.ref (ad o), .int p0]) (n := 4) (Nat.le_of_ble_eq_true rfl)
  rw [lg_entry_eq]
  generalize (lg_sl ([.ref (ad o), .int p0]) ++ List.replicate (4 - (lg_sl ([.ref (ad o), .int p0])).length) Slot.unset).toArray = ls at hl ⊢
  have hl : lv_has ls 4 [(0, .ref (ad o)), (1, .int p0)] := hl
  have L4 : ∀ (f : Nat) (v1 : Int32) (v2 : Int32) (v3 : Int32), t_X0_hoursToHeat_4 N o f v1 v2 v3 σ = some r → ∀ (H : Heap) (locs : List Loc), Wd D cy 55 shX ad A s.heap σ H locs → ∀ ls : Array Slot, lv_has ls 4 [(0, .ref (ad o)), (1, .int v1), (2, .int v2), (3, .int v3)] → Gi p l e us_X0_hoursToHeat ({ frames := 2, cells := 0, slots := 0, locals := 43 } : Room) s m [.ref (ad o), .int p0] below meth c D cy 55 shX ad A r σ H locs (F0 m 4 ls []) := by
    intro f
    unfold t_X0_hoursToHeat_4
    refine loopG_ind (fun (T : Int32 → Int32 → Int32 → Hp → Option Int32) => ∀ (v1 : Int32) (v2 : Int32) (v3 : Int32), T v1 v2 v3 σ = some r → ∀ (H : Heap) (locs : List Loc), Wd D cy 55 shX ad A s.heap σ H locs → ∀ ls : Array Slot, lv_has ls 4 [(0, .ref (ad o)), (1, .int v1), (2, .int v2), (3, .int v3)] → Gi p l e us_X0_hoursToHeat ({ frames := 2, cells := 0, slots := 0, locals := 43 } : Room) s m [.ref (ad o), .int p0] below meth c D cy 55 shX ad A r σ H locs (F0 m 4 ls [])) ?_ ?_ f
    · intro v1 v2 v3 h; exact absurd h (by simp)
    · intro k4 ih4
      have J51 : ∀ (v1 : Int32) (v2 : Int32) (v3 : Int32), t_X0_hoursToHeat_51 N o k4 v1 v2 v3 σ = some r → ∀ (H : Heap) (locs : List Loc), Wd D cy 55 shX ad A s.heap σ H locs → ∀ ls : Array Slot, lv_has ls 4 [(0, .ref (ad o)), (1, .int v1), (2, .int v2), (3, .int v3)] → Gi p l e us_X0_hoursToHeat ({ frames := 2, cells := 0, slots := 0, locals := 43 } : Room) s m [.ref (ad o), .int p0] below meth c D cy 55 shX ad A r σ H locs (F0 m 51 ls []) := by
        intro v1 v2 v3 h H locs hW ls hl
        unfold t_X0_hoursToHeat_51 at h
        replace h := bx h
        obtain ⟨x1, ex1, h⟩ := h
        refine lv_iinc (v := x1) (lv' := [(3, .int x1), (0, .ref (ad o)), (1, .int v1), (2, .int v2)]) hx hb dX0_hoursToHeat_51 hl (k := 3) rfl (by rw [ex1]; rfl) (by decide) rfl (fun ls hln => ?_)
        replace hl := hln
        clear hln ex1
        refine lv_goto (tgt := 4) hx hb dX0_hoursToHeat_54 (by decide) ?_
        exact ih4 _ _ _ h _ _ hW _ (lv_sub hl [1, 2, 3, 0] rfl)
      intro v1 v2 v3 h H locs hW ls hl
      refine lv_iload_n hx hb dX0_hoursToHeat_4 rfl (lv_at hl 3 rfl) ?_
      refine lv_aload_n hx hb dX0_hoursToHeat_5 rfl (lv_at hl 0 rfl) ?_
      refine r_geti hC hW 0 (isCoop_b ho 0 (Nat.zero_le _)) ho.2.1 rfl rfl (by decide) inUX0 (hts _ wd_7) rfl dX0_hoursToHeat_6 ?_
      refine lv_icmp_ge (tgt := 57) hx hb dX0_hoursToHeat_9 (by decide) (fun cq => ?_) (fun cq => ?_)
      · replace h := tp cq h
        refine lv_iload_n hx hb dX0_hoursToHeat_57 rfl (lv_at hl 2 rfl) ?_
        exact r_iretP hC hr hlocks h hW dX0_hoursToHeat_58
      · replace h := tn cq h
        refine lv_aload_n hx hb dX0_hoursToHeat_12 rfl (lv_at hl 0 rfl) ?_
        refine lv_iload_n hx hb dX0_hoursToHeat_13 rfl (lv_at hl 3 rfl) ?_
        replace h := bd h
        obtain ⟨r2, hc, h⟩ := h
        refine r_calli hW (va_runV (As := [.int v3]) (rest := []) hC.1 (c_X0_isWhole l D cy ad A o ho _ _ _ hc) (cwV 1 hts (gdV wd_9 wd_10 wd_11 wd_12 wd_8) rfl rfl rfl (by decide +kernel) ⟨Nat.le_of_ble_eq_true rfl, Nat.le_of_ble_eq_true rfl⟩) (r_preV hC hW (isCoop_b ho 0 (Nat.zero_le _)) ho.2.1 rfl) rfl rfl hl.1 rfl (lv_room (Nat.le_of_ble_eq_true rfl)) dX0_hoursToHeat_14 ⟨Nat.zero_le _, Nat.zero_le _⟩) (fun H locs hWn => ?_)
        replace hW := hWn
        clear hWn hc
        refine lv_if_eq (tgt := 51) hx hb dX0_hoursToHeat_17 (by decide) (fun cq => ?_) (fun cq => ?_)
        · replace h := tp cq h
          exact J51 _ _ _ h _ _ hW _ (lv_sub hl [0, 1, 2, 3] rfl)
        · replace h := tn cq h
          refine lv_aload_n hx hb dX0_hoursToHeat_20 rfl (lv_at hl 0 rfl) ?_
          refine lv_iload_n hx hb dX0_hoursToHeat_21 rfl (lv_at hl 3 rfl) ?_
          refine lv_iconst (v := 3) hx hb dX0_hoursToHeat_22 (by decide) ?_
          replace h := bd h
          obtain ⟨r3, hc, h⟩ := h
          refine r_calli hW (va_runV (As := [.int v3, .int 3]) (rest := []) hC.1 (c_X0_fact l D cy ad A o ho _ _ _ _ hc) (cwV 2 hts (gdV wd_18 wd_19 wd_20 wd_12 wd_17) rfl rfl rfl (by decide +kernel) ⟨Nat.le_of_ble_eq_true rfl, Nat.le_of_ble_eq_true rfl⟩) (r_preV hC hW (isCoop_b ho 0 (Nat.zero_le _)) ho.2.1 rfl) rfl rfl hl.1 rfl (lv_room (Nat.le_of_ble_eq_true rfl)) dX0_hoursToHeat_23 ⟨Nat.zero_le _, Nat.zero_le _⟩) (fun H locs hWn => ?_)
          replace hW := hWn
          clear hWn hc
          refine lv_iload_n hx hb dX0_hoursToHeat_26 rfl (lv_at hl 1 rfl) ?_
          refine lv_icmp_eq (tgt := 33) hx hb dX0_hoursToHeat_27 (by decide) (fun cq => ?_) (fun cq => ?_)
          · replace h := tp cq h
            refine lv_iload_n hx hb dX0_hoursToHeat_33 rfl (lv_at hl 2 rfl) ?_
            refine lv_aload_n hx hb dX0_hoursToHeat_34 rfl (lv_at hl 0 rfl) ?_
            refine lv_iload_n hx hb dX0_hoursToHeat_35 rfl (lv_at hl 3 rfl) ?_
            refine lv_iconst (v := 0) hx hb dX0_hoursToHeat_36 (by decide) ?_
            replace h := bd h
            obtain ⟨r4, hc, h⟩ := h
            refine r_calli hW (va_runV (As := [.int v3, .int 0]) (rest := [.int v2]) hC.1 (c_X0_fact l D cy ad A o ho _ _ _ _ hc) (cwV 2 hts (gdV wd_18 wd_19 wd_20 wd_12 wd_17) rfl rfl rfl (by decide +kernel) ⟨Nat.le_of_ble_eq_true rfl, Nat.le_of_ble_eq_true rfl⟩) (r_preV hC hW (isCoop_b ho 0 (Nat.zero_le _)) ho.2.1 rfl) rfl rfl hl.1 rfl (lv_room (Nat.le_of_ble_eq_true rfl)) dX0_hoursToHeat_37 ⟨Nat.zero_le _, Nat.zero_le _⟩) (fun H locs hWn => ?_)
            replace hW := hWn
            clear hWn hc
            refine lv_aload_n hx hb dX0_hoursToHeat_40 rfl (lv_at hl 0 rfl) ?_
            refine lv_iload_n hx hb dX0_hoursToHeat_41 rfl (lv_at hl 3 rfl) ?_
            refine lv_iconst (v := 1) hx hb dX0_hoursToHeat_42 (by decide) ?_
            replace h := bd h
            obtain ⟨r5, hc, h⟩ := h
            refine r_calli hW (va_runV (As := [.int v3, .int 1]) (rest := [.int r4, .int v2]) hC.1 (c_X0_fact l D cy ad A o ho _ _ _ _ hc) (cwV 2 hts (gdV wd_18 wd_19 wd_20 wd_12 wd_17) rfl rfl rfl (by decide +kernel) ⟨Nat.le_of_ble_eq_true rfl, Nat.le_of_ble_eq_true rfl⟩) (r_preV hC hW (isCoop_b ho 0 (Nat.zero_le _)) ho.2.1 rfl) rfl rfl hl.1 rfl (lv_room (Nat.le_of_ble_eq_true rfl)) dX0_hoursToHeat_43 ⟨Nat.zero_le _, Nat.zero_le _⟩) (fun H locs hWn => ?_)
            replace hW := hWn
            clear hWn hc
            refine lv_isub hx hb dX0_hoursToHeat_46 ?_
            refine va_mmax hx hb (hml.trans hl.1.symm) hown (hts _ wd_33) (hts _ wd_34) (hts _ wd_35) (hts _ wd_36) (Nat.le_of_ble_eq_true rfl) (Nat.le_of_ble_eq_true rfl) (Nat.le_refl _) (Nat.le_refl _) dX0_hoursToHeat_47 ?_
            replace h := bx h
            obtain ⟨x6, ex6, h⟩ := h
            refine tope ex6 ?_
            clear ex6
            refine lv_istore_n (lv' := [(2, .int x6), (0, .ref (ad o)), (1, .int v1), (3, .int v3)]) hx hb dX0_hoursToHeat_50 rfl hl (by decide) rfl (fun ls hln => ?_)
            replace hl := hln
            clear hln
            exact J51 _ _ _ h _ _ hW _ (lv_sub hl [1, 2, 0, 3] rfl)
          · replace h := tn cq h
            refine lv_goto (tgt := 51) hx hb dX0_hoursToHeat_30 (by decide) ?_
            exact J51 _ _ _ h _ _ hW _ (lv_sub hl [0, 1, 2, 3] rfl)
  refine lv_iconst (v := 0) hx hb dX0_hoursToHeat_0 (by decide) ?_
  refine lv_istore_n (lv' := [(2, .int 0), (0, .ref (ad o)), (1, .int p0)]) hx hb dX0_hoursToHeat_1 rfl hl (by decide) rfl (fun ls hln => ?_)
  replace hl := hln
  clear hln
  refine lv_iconst (v := 0) hx hb dX0_hoursToHeat_2 (by decide) ?_
  refine lv_istore_n (lv' := [(3, .int 0), (2, .int 0), (0, .ref (ad o)), (1, .int p0)]) hx hb dX0_hoursToHeat_3 rfl hl (by decide) rfl (fun ls hln => ?_)
  replace hl := hln
  clear hln
  exact L4 _ _ _ _ h _ _ hW _ (lv_sub hl [2, 3, 1, 0] rfl)
set_option maxHeartbeats 4000000 in
set_option maxRecDepth 100000 in
theorem c_X0_housesOfWhole (l : Launch) (D : va_G) (cy : ClassId × ClassId) (ad : Nat → Nat) (A : Nat → Prop) (N : Nat) (o : Nat) (ho : isCoop o) (σ : Hp) (r : Int32) (h : t_X0_housesOfWhole N o σ = some r) : Ci l yX0_housesOfWhole us_X0_housesOfWhole ({ frames := 2, cells := 0, slots := 0, locals := 43 } : Room) D cy 55 shX ad A [.ref (ad o)] σ r σ := by
  unfold t_X0_housesOfWhole at h
  refine Met.ofW (cc := cX0_housesOfWhole) (maxL := 3) (ret := (some .int)) (by decide) rfl ?_
  intro p e s m args below meth c s₁ B hml hv
  obtain ⟨rfl, hP, hK, hD, hA, hN⟩ := hv
  have hx := B.exec
  have hb := B.bytes
  have hr := B.returns
  have hlocks := B.notSynchronized
  have hts : ∀ w ∈ wsU, w.before _ s = true := fun w h => atoms_spec (ws := us_X0_housesOfWhole) B.pre w (List.mem_cons_of_mem _ h)
  have hown : s.vm.findClass RX0 = some m.cls := findClass_of_methodNamed B.named
  have hC : Cx p m c cX0_housesOfWhole 3 s _ wsU RX0 D cy := ⟨⟨hx, hb, hml, hown, hts⟩, hK, hN⟩
  have hW : Wd D cy 55 shX ad A s.heap σ s.heap [] := ⟨hP, hD, va_S.rf, hA⟩
  have hl := lv_entry ([.ref (ad o)]) (n := 3) (Nat.le_of_ble_eq_true rfl)
  rw [lg_entry_eq]
  generalize (lg_sl ([.ref (ad o)]) ++ List.replicate (3 - (lg_sl ([.ref (ad o)])).length) Slot.unset).toArray = ls at hl ⊢
  have hl : lv_has ls 3 [(0, .ref (ad o))] := hl
  have L4 : ∀ (f : Nat) (v1 : Int32) (v2 : Int32), t_X0_housesOfWhole_4 N o f v1 v2 σ = some r → ∀ (H : Heap) (locs : List Loc), Wd D cy 55 shX ad A s.heap σ H locs → ∀ ls : Array Slot, lv_has ls 3 [(0, .ref (ad o)), (1, .int v1), (2, .int v2)] → Gi p l e us_X0_housesOfWhole ({ frames := 2, cells := 0, slots := 0, locals := 43 } : Room) s m [.ref (ad o)] below meth c D cy 55 shX ad A r σ H locs (F0 m 4 ls []) := by
    intro f
    unfold t_X0_housesOfWhole_4
    refine loopG_ind (fun (T : Int32 → Int32 → Hp → Option Int32) => ∀ (v1 : Int32) (v2 : Int32), T v1 v2 σ = some r → ∀ (H : Heap) (locs : List Loc), Wd D cy 55 shX ad A s.heap σ H locs → ∀ ls : Array Slot, lv_has ls 3 [(0, .ref (ad o)), (1, .int v1), (2, .int v2)] → Gi p l e us_X0_housesOfWhole ({ frames := 2, cells := 0, slots := 0, locals := 43 } : Room) s m [.ref (ad o)] below meth c D cy 55 shX ad A r σ H locs (F0 m 4 ls [])) ?_ ?_ f
    · intro v1 v2 h; exact absurd h (by simp)
    · intro k4 ih4
      have J32 : ∀ (v1 : Int32) (v2 : Int32), t_X0_housesOfWhole_32 N o k4 v1 v2 σ = some r → ∀ (H : Heap) (locs : List Loc), Wd D cy 55 shX ad A s.heap σ H locs → ∀ ls : Array Slot, lv_has ls 3 [(0, .ref (ad o)), (1, .int v1), (2, .int v2)] → Gi p l e us_X0_housesOfWhole ({ frames := 2, cells := 0, slots := 0, locals := 43 } : Room) s m [.ref (ad o)] below meth c D cy 55 shX ad A r σ H locs (F0 m 32 ls []) := by
        intro v1 v2 h H locs hW ls hl
        unfold t_X0_housesOfWhole_32 at h
        replace h := bx h
        obtain ⟨x1, ex1, h⟩ := h
        refine lv_iinc (v := x1) (lv' := [(2, .int x1), (0, .ref (ad o)), (1, .int v1)]) hx hb dX0_housesOfWhole_32 hl (k := 2) rfl (by rw [ex1]; rfl) (by decide) rfl (fun ls hln => ?_)
        replace hl := hln
        clear hln ex1
        refine lv_goto (tgt := 4) hx hb dX0_housesOfWhole_35 (by decide) ?_
        exact ih4 _ _ h _ _ hW _ (lv_sub hl [1, 2, 0] rfl)
      intro v1 v2 h H locs hW ls hl
      refine lv_iload_n hx hb dX0_housesOfWhole_4 rfl (lv_at hl 2 rfl) ?_
      refine lv_aload_n hx hb dX0_housesOfWhole_5 rfl (lv_at hl 0 rfl) ?_
      refine r_geti hC hW 0 (isCoop_b ho 0 (Nat.zero_le _)) ho.2.1 rfl rfl (by decide) inUX0 (hts _ wd_7) rfl dX0_housesOfWhole_6 ?_
      refine lv_icmp_ge (tgt := 38) hx hb dX0_housesOfWhole_9 (by decide) (fun cq => ?_) (fun cq => ?_)
      · replace h := tp cq h
        refine lv_iload_n hx hb dX0_housesOfWhole_38 rfl (lv_at hl 1 rfl) ?_
        exact r_iretP hC hr hlocks h hW dX0_housesOfWhole_39
      · replace h := tn cq h
        refine lv_aload_n hx hb dX0_housesOfWhole_12 rfl (lv_at hl 0 rfl) ?_
        refine lv_iload_n hx hb dX0_housesOfWhole_13 rfl (lv_at hl 2 rfl) ?_
        replace h := bd h
        obtain ⟨r2, hc, h⟩ := h
        refine r_calli hW (va_runV (As := [.int v2]) (rest := []) hC.1 (c_X0_isWhole l D cy ad A o ho _ _ _ hc) (cwV 1 hts (gdV wd_9 wd_10 wd_11 wd_12 wd_8) rfl rfl rfl (by decide +kernel) ⟨Nat.le_of_ble_eq_true rfl, Nat.le_of_ble_eq_true rfl⟩) (r_preV hC hW (isCoop_b ho 0 (Nat.zero_le _)) ho.2.1 rfl) rfl rfl hl.1 rfl (lv_room (Nat.le_of_ble_eq_true rfl)) dX0_housesOfWhole_14 ⟨Nat.zero_le _, Nat.zero_le _⟩) (fun H locs hWn => ?_)
        replace hW := hWn
        clear hWn hc
        refine lv_if_eq (tgt := 32) hx hb dX0_housesOfWhole_17 (by decide) (fun cq => ?_) (fun cq => ?_)
        · replace h := tp cq h
          exact J32 _ _ h _ _ hW _ (lv_sub hl [0, 1, 2] rfl)
        · replace h := tn cq h
          refine lv_iload_n hx hb dX0_housesOfWhole_20 rfl (lv_at hl 1 rfl) ?_
          refine lv_aload_n hx hb dX0_housesOfWhole_21 rfl (lv_at hl 0 rfl) ?_
          refine lv_iload_n hx hb dX0_housesOfWhole_22 rfl (lv_at hl 2 rfl) ?_
          refine lv_iconst (v := 3) hx hb dX0_housesOfWhole_23 (by decide) ?_
          replace h := bd h
          obtain ⟨r3, hc, h⟩ := h
          refine r_calli hW (va_runV (As := [.int v2, .int 3]) (rest := [.int v1]) hC.1 (c_X0_fact l D cy ad A o ho _ _ _ _ hc) (cwV 2 hts (gdV wd_18 wd_19 wd_20 wd_12 wd_17) rfl rfl rfl (by decide +kernel) ⟨Nat.le_of_ble_eq_true rfl, Nat.le_of_ble_eq_true rfl⟩) (r_preV hC hW (isCoop_b ho 0 (Nat.zero_le _)) ho.2.1 rfl) rfl rfl hl.1 rfl (lv_room (Nat.le_of_ble_eq_true rfl)) dX0_housesOfWhole_24 ⟨Nat.zero_le _, Nat.zero_le _⟩) (fun H locs hWn => ?_)
          replace hW := hWn
          clear hWn hc
          replace h := bd h
          obtain ⟨r4, hc, h⟩ := h
          refine r_calli hW (va_runSN (As := [.int r3]) (rest := [.int v1]) hC.1 (c_X6_bit l D cy ad A _ _ _ hc) ⟨va_cnB 1 hts (gdN wd_25) rfl rfl rfl (NL.at hC.2.2 nw_RX0_61 rfl) (hts _ wd_5) (by decide +kernel) ⟨Nat.le_of_ble_eq_true rfl, Nat.le_of_ble_eq_true rfl⟩, hts _ wd_26, trivial⟩ (r_preS hC hW) rfl rfl hl.1 rfl (lv_room (Nat.le_of_ble_eq_true rfl)) dX0_housesOfWhole_27 ⟨Nat.zero_le _, Nat.zero_le _⟩) (fun H locs hWn => ?_)
          replace hW := hWn
          clear hWn hc
          refine lv_ior hx hb dX0_housesOfWhole_30 ?_
          replace h := bx h
          obtain ⟨x5, ex5, h⟩ := h
          refine tope ex5 ?_
          clear ex5
          refine lv_istore_n (lv' := [(1, .int x5), (0, .ref (ad o)), (2, .int v2)]) hx hb dX0_housesOfWhole_31 rfl hl (by decide) rfl (fun ls hln => ?_)
          replace hl := hln
          clear hln
          exact J32 _ _ h _ _ hW _ (lv_sub hl [1, 0, 2] rfl)
  refine lv_iconst (v := 0) hx hb dX0_housesOfWhole_0 (by decide) ?_
  refine lv_istore_n (lv' := [(1, .int 0), (0, .ref (ad o))]) hx hb dX0_housesOfWhole_1 rfl hl (by decide) rfl (fun ls hln => ?_)
  replace hl := hln
  clear hln
  refine lv_iconst (v := 0) hx hb dX0_housesOfWhole_2 (by decide) ?_
  refine lv_istore_n (lv' := [(2, .int 0), (1, .int 0), (0, .ref (ad o))]) hx hb dX0_housesOfWhole_3 rfl hl (by decide) rfl (fun ls hln => ?_)
  replace hl := hln
  clear hln
  exact L4 _ _ _ h _ _ hW _ (lv_sub hl [2, 1, 0] rfl)
set_option maxHeartbeats 4000000 in
set_option maxRecDepth 100000 in
theorem c_X6_put (l : Launch) (D : va_G) (cy : ClassId × ClassId) (ad : Nat → Nat) (A : Nat → Prop) (a : Nat) (la : Nat) (ha : isArr a la) (p1 : Int32) (p2 : Int32) (σ : Hp) (σ' : Hp) (h : t_X6_put a la p1 p2 σ = some σ') : Cv l yX6_put us_X6_put ({ frames := 0, cells := 0, slots := 0, locals := 0 } : Room) D cy 55 shX ad A [.ref (ad a), .int p1, .int p2] σ σ' := by
  unfold t_X6_put at h
  refine Met.ofW (cc := cX6_put) (maxL := 3) (ret := none) (by decide) rfl ?_
  intro p e s m args below meth c s₁ B hml hv
  obtain ⟨rfl, hP, hK, hD, hA, hN⟩ := hv
  have hx := B.exec
  have hb := B.bytes
  have hr := B.returns
  have hlocks := B.notSynchronized
  have hts : ∀ w ∈ wsU, w.before _ s = true := fun w h => atoms_spec (ws := us_X6_put) B.pre w (List.mem_cons_of_mem _ h)
  have hown : s.vm.findClass RX6 = some m.cls := findClass_of_methodNamed B.named
  have hC : Cx p m c cX6_put 3 s _ wsU RX6 D cy := ⟨⟨hx, hb, hml, hown, hts⟩, hK, hN⟩
  have hW : Wd D cy 55 shX ad A s.heap σ s.heap [] := ⟨hP, hD, va_S.rf, hA⟩
  have hl := lv_entry ([.ref (ad a), .int p1, .int p2]) (n := 3) (Nat.le_of_ble_eq_true rfl)
  rw [lg_entry_eq]
  generalize (lg_sl ([.ref (ad a), .int p1, .int p2]) ++ List.replicate (3 - (lg_sl ([.ref (ad a), .int p1, .int p2])).length) Slot.unset).toArray = ls at hl ⊢
  have hl : lv_has ls 3 [(0, .ref (ad a)), (1, .int p1), (2, .int p2)] := hl
  refine lv_aload_n hx hb dX6_put_0 rfl (lv_at hl 0 rfl) ?_
  refine lv_ifnull hx hb dX6_put_1 ?_
  refine lv_iload_n hx hb dX6_put_4 rfl (lv_at hl 1 rfl) ?_
  refine lv_if_lt (tgt := 18) hx hb dX6_put_5 (by decide) (fun cq => ?_) (fun cq => ?_)
  · replace h := tp cq h
    exact r_vretW hC hr hlocks h hW dX6_put_18
  · replace h := tn cq h
    refine lv_iload_n hx hb dX6_put_8 rfl (lv_at hl 1 rfl) ?_
    refine lv_aload_n hx hb dX6_put_9 rfl (lv_at hl 0 rfl) ?_
    refine r_alen hC hW ha.1 ha.2 dX6_put_10 ?_
    refine lv_icmp_ge (tgt := 18) hx hb dX6_put_11 (by decide) (fun cq => ?_) (fun cq => ?_)
    · replace h := tp cq h
      exact r_vretW hC hr hlocks h hW dX6_put_18
    · replace h := tn cq h
      refine lv_aload_n hx hb dX6_put_14 rfl (lv_at hl 0 rfl) ?_
      refine lv_iload_n hx hb dX6_put_15 rfl (lv_at hl 1 rfl) ?_
      refine lv_iload_n hx hb dX6_put_16 rfl (lv_at hl 2 rfl) ?_
      replace h := og h
      obtain ⟨hi, h⟩ := h
      refine r_ast hC hW ha.1 ha.2 hi dX6_put_17 (fun σ1 eσ1 H locs hWn => ?_)
      replace h := bn eσ1 h
      replace hW := hWn
      clear hWn eσ1
      exact r_vretW hC hr hlocks h hW dX6_put_18
set_option maxHeartbeats 4000000 in
set_option maxRecDepth 100000 in
theorem c_X0_setFact (l : Launch) (D : va_G) (cy : ClassId × ClassId) (ad : Nat → Nat) (A : Nat → Prop) (o : Nat) (ho : isCoop o) (p0 : Int32) (p1 : Int32) (p2 : Int32) (σ : Hp) (σ' : Hp) (h : t_X0_setFact o p0 p1 p2 σ = some σ') : Cv l yX0_setFact us_X0_setFact ({ frames := 1, cells := 0, slots := 0, locals := 22 } : Room) D cy 55 shX ad A [.ref (ad o), .int p0, .int p1, .int p2] σ σ' := by
  unfold t_X0_setFact at h
  refine Met.ofW (cc := cX0_setFact) (maxL := 4) (ret := none) (by decide) rfl ?_
  intro p e s m args below meth c s₁ B hml hv
  obtain ⟨rfl, hP, hK, hD, hA, hN⟩ := hv
  have hx := B.exec
  have hb := B.bytes
  have hr := B.returns
  have hlocks := B.notSynchronized
  have hts : ∀ w ∈ wsU, w.before _ s = true := fun w h => atoms_spec (ws := us_X0_setFact) B.pre w (List.mem_cons_of_mem _ h)
  have hown : s.vm.findClass RX0 = some m.cls := findClass_of_methodNamed B.named
  have hC : Cx p m c cX0_setFact 4 s _ wsU RX0 D cy := ⟨⟨hx, hb, hml, hown, hts⟩, hK, hN⟩
  have hW : Wd D cy 55 shX ad A s.heap σ s.heap [] := ⟨hP, hD, va_S.rf, hA⟩
  have hl := lv_entry ([.ref (ad o), .int p0, .int p1, .int p2]) (n := 4) (Nat.le_of_ble_eq_true rfl)
  rw [lg_entry_eq]
  generalize (lg_sl ([.ref (ad o), .int p0, .int p1, .int p2]) ++ List.replicate (4 - (lg_sl ([.ref (ad o), .int p0, .int p1, .int p2])).length) Slot.unset).toArray = ls at hl ⊢
  have hl : lv_has ls 4 [(0, .ref (ad o)), (1, .int p0), (2, .int p1), (3, .int p2)] := hl
  refine lv_aload_n hx hb dX0_setFact_0 rfl (lv_at hl 0 rfl) ?_
  refine r_getr hC hW 3 (isCoop_b ho 0 (Nat.zero_le _)) ho.2.1 rfl rfl (by decide) inUX0 (hts _ wd_3) rfl dX0_setFact_1 ?_
  refine lv_iload_n hx hb dX0_setFact_4 rfl (lv_at hl 1 rfl) ?_
  refine lv_iconst (v := 5) hx hb dX0_setFact_5 (by decide) ?_
  refine lv_imul hx hb dX0_setFact_6 ?_
  refine lv_iload_n hx hb dX0_setFact_7 rfl (lv_at hl 2 rfl) ?_
  refine lv_iadd hx hb dX0_setFact_8 ?_
  refine lv_iload_n hx hb dX0_setFact_9 rfl (lv_at hl 3 rfl) ?_
  replace h := bd h
  obtain ⟨σ1, hc, h⟩ := h
  refine r_callv hW (va_runSN (As := [.ref (ad (o + 2)), .int ((p0 * 5) + p1), .int p2]) (rest := []) hC.1 (c_X6_put l D cy ad A (o + 2) 35 ⟨isCoop_b ho 2 (Nat.le_of_ble_eq_true rfl), ho.2.2.2⟩ _ _ _ _ hc) ⟨va_cnB 3 hts (gdN wd_37) rfl rfl rfl (NL.at hC.2.2 nw_RX0_34 rfl) (hts _ wd_5) (by decide +kernel) ⟨Nat.le_of_ble_eq_true rfl, Nat.le_of_ble_eq_true rfl⟩, hts _ wd_38, trivial⟩ (r_preS hC hW) rfl rfl hl.1 rfl (lv_room (Nat.le_of_ble_eq_true rfl)) dX0_setFact_10 ⟨Nat.zero_le _, Nat.zero_le _⟩) (fun H locs hWn => ?_)
  replace hW := hWn
  clear hWn hc
  exact r_vretW hC hr hlocks h hW dX0_setFact_13
