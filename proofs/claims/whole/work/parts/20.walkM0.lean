set_option maxHeartbeats 4000000 in
set_option maxRecDepth 100000 in
theorem c_X7_areAllWhole (l : Launch) (D : va_G) (cy : ClassId × ClassId) (ad : Nat → Nat) (A : Nat → Prop) (N : Nat) (σ : Hp) (r : Int32) (h : t_X7_areAllWhole N σ = some r) : Ci l yX7_areAllWhole us_X7_areAllWhole ({ frames := 0, cells := 0, slots := 0, locals := 0 } : Room) D cy 27 shM ad A [.ref (ad 0)] σ r σ := by
  unfold t_X7_areAllWhole at h
  refine Met.ofW (cc := cX7_areAllWhole) (maxL := 3) (ret := (some .boolean)) (by decide) rfl ?_
  intro p e s m args below meth c s₁ B hml hv
  obtain ⟨rfl, hP, hK, hD, hA, hN⟩ := hv
  have hx := B.exec
  have hb := B.bytes
  have hr := B.returns
  have hlocks := B.notSynchronized
  have hts : ∀ w ∈ wsU, w.before _ s = true := fun w h => atoms_spec (ws := us_X7_areAllWhole) B.pre w (List.mem_cons_of_mem _ h)
  have hown : s.vm.findClass RX7 = some m.cls := findClass_of_methodNamed B.named
  have hC : Cx p m c cX7_areAllWhole 3 s _ wsU RX7 D cy := ⟨⟨hx, hb, hml, hown, hts⟩, hK, hN⟩
  have hW : Wd D cy 27 shM ad A s.heap σ s.heap [] := ⟨hP, hD, va_S.rf, hA⟩
  have hl := lv_entry ([.ref (ad 0)]) (n := 3) (Nat.le_of_ble_eq_true rfl)
  rw [lg_entry_eq]
  generalize (lg_sl ([.ref (ad 0)]) ++ List.replicate (3 - (lg_sl ([.ref (ad 0)])).length) Slot.unset).toArray = ls at hl ⊢
  have hl : lv_has ls 3 [(0, .ref (ad 0))] := hl
  have L4 : ∀ (f : Nat) (v1 : Int32) (v2 : Int32), t_X7_areAllWhole_4 N f v1 v2 σ = some r → ∀ (H : Heap) (locs : List Loc), Wd D cy 27 shM ad A s.heap σ H locs → ∀ ls : Array Slot, lv_has ls 3 [(0, .ref (ad 0)), (1, .int v1), (2, .int v2)] → Gi p l e us_X7_areAllWhole ({ frames := 0, cells := 0, slots := 0, locals := 0 } : Room) s m [.ref (ad 0)] below meth c D cy 27 shM ad A r σ H locs (F0 m 4 ls []) := by
    intro f
    unfold t_X7_areAllWhole_4
    refine loopG_ind (fun (T : Int32 → Int32 → Hp → Option Int32) => ∀ (v1 : Int32) (v2 : Int32), T v1 v2 σ = some r → ∀ (H : Heap) (locs : List Loc), Wd D cy 27 shM ad A s.heap σ H locs → ∀ ls : Array Slot, lv_has ls 3 [(0, .ref (ad 0)), (1, .int v1), (2, .int v2)] → Gi p l e us_X7_areAllWhole ({ frames := 0, cells := 0, slots := 0, locals := 0 } : Room) s m [.ref (ad 0)] below meth c D cy 27 shM ad A r σ H locs (F0 m 4 ls [])) ?_ ?_ f
    · intro v1 v2 h; exact absurd h (by simp)
    · intro k4 ih4
      have J30 : ∀ (v2 : Int32) (s0 : Int32), t_X7_areAllWhole_30 N k4 v2 s0 σ = some r → ∀ (H : Heap) (locs : List Loc), Wd D cy 27 shM ad A s.heap σ H locs → ∀ ls : Array Slot, lv_has ls 3 [(0, .ref (ad 0)), (2, .int v2)] → Gi p l e us_X7_areAllWhole ({ frames := 0, cells := 0, slots := 0, locals := 0 } : Room) s m [.ref (ad 0)] below meth c D cy 27 shM ad A r σ H locs (F0 m 30 ls [.int s0]) := by
        intro v2 s0 h H locs hW ls hl
        unfold t_X7_areAllWhole_30 at h
        refine lv_istore_n (lv' := [(1, .int s0), (0, .ref (ad 0)), (2, .int v2)]) hx hb dX7_areAllWhole_30 rfl hl (by decide) rfl (fun ls hln => ?_)
        replace hl := hln
        clear hln
        replace h := bx h
        obtain ⟨x1, ex1, h⟩ := h
        refine lv_iinc (v := x1) (lv' := [(2, .int x1), (1, .int s0), (0, .ref (ad 0))]) hx hb dX7_areAllWhole_31 hl (k := 2) rfl (by rw [ex1]; rfl) (by decide) rfl (fun ls hln => ?_)
        replace hl := hln
        clear hln ex1
        refine lv_goto (tgt := 4) hx hb dX7_areAllWhole_34 (by decide) ?_
        exact ih4 _ _ h _ _ hW _ (lv_sub hl [2, 1, 0] rfl)
      have J29 : ∀ (v2 : Int32), t_X7_areAllWhole_29 N k4 v2 σ = some r → ∀ (H : Heap) (locs : List Loc), Wd D cy 27 shM ad A s.heap σ H locs → ∀ ls : Array Slot, lv_has ls 3 [(0, .ref (ad 0)), (2, .int v2)] → Gi p l e us_X7_areAllWhole ({ frames := 0, cells := 0, slots := 0, locals := 0 } : Room) s m [.ref (ad 0)] below meth c D cy 27 shM ad A r σ H locs (F0 m 29 ls []) := by
        intro v2 h H locs hW ls hl
        unfold t_X7_areAllWhole_29 at h
        refine lv_iconst (v := 0) hx hb dX7_areAllWhole_29 (by decide) ?_
        exact J30 _ _ h _ _ hW _ (lv_sub hl [0, 1] rfl)
      intro v1 v2 h H locs hW ls hl
      refine lv_iload_n hx hb dX7_areAllWhole_4 rfl (lv_at hl 2 rfl) ?_
      refine lv_aload_n hx hb dX7_areAllWhole_5 rfl (lv_at hl 0 rfl) ?_
      refine r_geti hC hW 0 (Nat.le_of_ble_eq_true rfl) rfl rfl rfl (by decide) inUX7 (hts _ wd_294) rfl dX7_areAllWhole_6 ?_
      refine lv_icmp_ge (tgt := 37) hx hb dX7_areAllWhole_9 (by decide) (fun cq => ?_) (fun cq => ?_)
      · replace h := tp cq h
        refine lv_iload_n hx hb dX7_areAllWhole_37 rfl (lv_at hl 1 rfl) ?_
        replace h := oz h
        obtain ⟨hz, h⟩ := h
        exact r_zretP hz hC hr hlocks h hW dX7_areAllWhole_38
      · replace h := tn cq h
        refine lv_iload_n hx hb dX7_areAllWhole_12 rfl (lv_at hl 1 rfl) ?_
        refine lv_if_eq (tgt := 29) hx hb dX7_areAllWhole_13 (by decide) (fun cq => ?_) (fun cq => ?_)
        · replace h := tp cq h
          exact J29 _ h _ _ hW _ (lv_sub hl [0, 2] rfl)
        · replace h := tn cq h
          refine lv_aload_n hx hb dX7_areAllWhole_16 rfl (lv_at hl 0 rfl) ?_
          refine r_getr hC hW 5 (Nat.le_of_ble_eq_true rfl) rfl rfl rfl (by decide) inUX7 (hts _ wd_295) rfl dX7_areAllWhole_17 ?_
          refine lv_iload_n hx hb dX7_areAllWhole_20 rfl (lv_at hl 2 rfl) ?_
          replace h := og h
          obtain ⟨hi, h⟩ := h
          refine r_ald hC hW (Nat.le_of_ble_eq_true rfl) rfl hi dX7_areAllWhole_21 ?_
          refine lv_if_ne (tgt := 29) hx hb dX7_areAllWhole_22 (by decide) (fun cq => ?_) (fun cq => ?_)
          · replace h := tn cq h
            exact J29 _ h _ _ hW _ (lv_sub hl [0, 2] rfl)
          · replace h := tp cq h
            refine lv_iconst (v := 1) hx hb dX7_areAllWhole_25 (by decide) ?_
            refine lv_goto (tgt := 30) hx hb dX7_areAllWhole_26 (by decide) ?_
            exact J30 _ _ h _ _ hW _ (lv_sub hl [0, 2] rfl)
  refine lv_iconst (v := 1) hx hb dX7_areAllWhole_0 (by decide) ?_
  refine lv_istore_n (lv' := [(1, .int 1), (0, .ref (ad 0))]) hx hb dX7_areAllWhole_1 rfl hl (by decide) rfl (fun ls hln => ?_)
  replace hl := hln
  clear hln
  refine lv_iconst (v := 0) hx hb dX7_areAllWhole_2 (by decide) ?_
  refine lv_istore_n (lv' := [(2, .int 0), (1, .int 1), (0, .ref (ad 0))]) hx hb dX7_areAllWhole_3 rfl hl (by decide) rfl (fun ls hln => ?_)
  replace hl := hln
  clear hln
  exact L4 _ _ _ h _ _ hW _ (lv_sub hl [2, 1, 0] rfl)
set_option maxHeartbeats 4000000 in
set_option maxRecDepth 100000 in
theorem c_X7_in (l : Launch) (D : va_G) (cy : ClassId × ClassId) (ad : Nat → Nat) (A : Nat → Prop) (p0 : Int64) (p1 : Int64) (p2 : Int64) (σ : Hp) (r : Int32) (h : t_X7_in p0 p1 p2 = some r) : Ci l yX7_in us_X7_in ({ frames := 0, cells := 0, slots := 0, locals := 0 } : Room) D cy 27 shM ad A [.long p0, .long p1, .long p2] σ r σ := by
  unfold t_X7_in at h
  refine Met.ofW (cc := cX7_in) (maxL := 6) (ret := (some .boolean)) (by decide) rfl ?_
  intro p e s m args below meth c s₁ B hml hv
  obtain ⟨rfl, hP, hK, hD, hA, hN⟩ := hv
  have hx := B.exec
  have hb := B.bytes
  have hr := B.returns
  have hlocks := B.notSynchronized
  have hts : ∀ w ∈ wsU, w.before _ s = true := fun w h => atoms_spec (ws := us_X7_in) B.pre w (List.mem_cons_of_mem _ h)
  have hown : s.vm.findClass RX7 = some m.cls := findClass_of_methodNamed B.named
  have hC : Cx p m c cX7_in 6 s _ wsU RX7 D cy := ⟨⟨hx, hb, hml, hown, hts⟩, hK, hN⟩
  have hW : Wd D cy 27 shM ad A s.heap σ s.heap [] := ⟨hP, hD, va_S.rf, hA⟩
  have hl := lv_entry ([.long p0, .long p1, .long p2]) (n := 6) (Nat.le_of_ble_eq_true rfl)
  rw [lg_entry_eq]
  generalize (lg_sl ([.long p0, .long p1, .long p2]) ++ List.replicate (6 - (lg_sl ([.long p0, .long p1, .long p2])).length) Slot.unset).toArray = ls at hl ⊢
  have hl : lv_has ls 6 [(0, .long p0), (2, .long p1), (4, .long p2)] := hl
  have J17 : t_X7_in_17  = some r → ∀ (H : Heap) (locs : List Loc), Wd D cy 27 shM ad A s.heap σ H locs → ∀ ls : Array Slot, lv_has ls 6 [] → Gi p l e us_X7_in ({ frames := 0, cells := 0, slots := 0, locals := 0 } : Room) s m [.long p0, .long p1, .long p2] below meth c D cy 27 shM ad A r σ H locs (F0 m 17 ls []) := by
    intro  h H locs hW ls hl
    unfold t_X7_in_17 at h
    refine lv_iconst (v := 0) hx hb dX7_in_17 (by decide) ?_
    exact r_zretP (Or.inl rfl) hC hr hlocks h hW dX7_in_18
  refine lv_lload_n hx hb dX7_in_0 rfl (lv_at hl 0 rfl) ?_
  refine lv_lload_n hx hb dX7_in_1 rfl (lv_at hl 1 rfl) ?_
  refine W.lcmp hx hb dX7_in_2 ?_
  refine lv_if_lt (tgt := 17) hx hb dX7_in_3 (by decide) (fun cq => ?_) (fun cq => ?_)
  · replace h := tp cq h
    exact J17  h _ _ hW _ (lv_sub hl [] rfl)
  · replace h := tn cq h
    refine lv_lload_n hx hb dX7_in_6 rfl (lv_at hl 0 rfl) ?_
    refine lv_lload hx hb dX7_in_7 (lv_at hl 2 rfl) ?_
    refine W.lcmp hx hb dX7_in_9 ?_
    refine lv_if_gt (tgt := 17) hx hb dX7_in_10 (by decide) (fun cq => ?_) (fun cq => ?_)
    · replace h := tp cq h
      exact J17  h _ _ hW _ (lv_sub hl [] rfl)
    · replace h := tn cq h
      refine lv_iconst (v := 1) hx hb dX7_in_13 (by decide) ?_
      refine lv_goto (tgt := 18) hx hb dX7_in_14 (by decide) ?_
      exact r_zretP (Or.inr rfl) hC hr hlocks h hW dX7_in_18
set_option maxHeartbeats 4000000 in
set_option maxRecDepth 100000 in
theorem c_X7_isHouse (l : Launch) (D : va_G) (cy : ClassId × ClassId) (ad : Nat → Nat) (A : Nat → Prop) (p0 : Int32) (σ : Hp) (r : Int32) (h : t_X7_isHouse p0 = some r) : Ci l yX7_isHouse us_X7_isHouse ({ frames := 1, cells := 0, slots := 0, locals := 25 } : Room) D cy 27 shM ad A [.int p0] σ r σ := by
  unfold t_X7_isHouse at h
  refine Met.ofW (cc := cX7_isHouse) (maxL := 1) (ret := (some .boolean)) (by decide) rfl ?_
  intro p e s m args below meth c s₁ B hml hv
  obtain ⟨rfl, hP, hK, hD, hA, hN⟩ := hv
  have hx := B.exec
  have hb := B.bytes
  have hr := B.returns
  have hlocks := B.notSynchronized
  have hts : ∀ w ∈ wsU, w.before _ s = true := fun w h => atoms_spec (ws := us_X7_isHouse) B.pre w (List.mem_cons_of_mem _ h)
  have hown : s.vm.findClass RX7 = some m.cls := findClass_of_methodNamed B.named
  have hC : Cx p m c cX7_isHouse 1 s _ wsU RX7 D cy := ⟨⟨hx, hb, hml, hown, hts⟩, hK, hN⟩
  have hW : Wd D cy 27 shM ad A s.heap σ s.heap [] := ⟨hP, hD, va_S.rf, hA⟩
  have hl := lv_entry ([.int p0]) (n := 1) (Nat.le_of_ble_eq_true rfl)
  rw [lg_entry_eq]
  generalize (lg_sl ([.int p0]) ++ List.replicate (1 - (lg_sl ([.int p0])).length) Slot.unset).toArray = ls at hl ⊢
  have hl : lv_has ls 1 [(0, .int p0)] := hl
  refine lv_iload_n hx hb dX7_isHouse_0 rfl (lv_at hl 0 rfl) ?_
  refine lv_i2l hx hb dX7_isHouse_1 rfl ?_
  refine lv_lconst (v := 0) hx hb dX7_isHouse_2 (by decide) ?_
  refine lv_ldc2 hx hb hown (hts _ wd_296) dX7_isHouse_3 ?_
  replace h := bd h
  obtain ⟨r1, hc, h⟩ := h
  refine r_calli hW (va_runS (As := [.long (p0.toInt64), .long 0, .long (5)]) (rest := []) hC.1 (c_X7_in l D cy ad A _ _ _ _ _ hc) (va_cwS 3 hts (gdS wd_298 wd_299 wd_300 wd_297) rfl rfl rfl (by decide +kernel) ⟨Nat.le_of_ble_eq_true rfl, Nat.le_of_ble_eq_true rfl⟩) (r_preS hC hW) rfl rfl hl.1 rfl (lv_room (Nat.le_of_ble_eq_true rfl)) dX7_isHouse_6 ⟨Nat.zero_le _, Nat.zero_le _⟩) (fun H locs hWn => ?_)
  replace hW := hWn
  clear hWn hc
  replace h := oz h
  obtain ⟨hz, h⟩ := h
  exact r_zretP hz hC hr hlocks h hW dX7_isHouse_9
set_option maxHeartbeats 4000000 in
set_option maxRecDepth 100000 in
theorem c_X7_isEgg (l : Launch) (D : va_G) (cy : ClassId × ClassId) (ad : Nat → Nat) (A : Nat → Prop) (p0 : Int32) (σ : Hp) (r : Int32) (h : t_X7_isEgg p0 σ = some r) : Ci l yX7_isEgg us_X7_isEgg ({ frames := 1, cells := 0, slots := 0, locals := 25 } : Room) D cy 27 shM ad A [.ref (ad 0), .int p0] σ r σ := by
  unfold t_X7_isEgg at h
  refine Met.ofW (cc := cX7_isEgg) (maxL := 2) (ret := (some .boolean)) (by decide) rfl ?_
  intro p e s m args below meth c s₁ B hml hv
  obtain ⟨rfl, hP, hK, hD, hA, hN⟩ := hv
  have hx := B.exec
  have hb := B.bytes
  have hr := B.returns
  have hlocks := B.notSynchronized
  have hts : ∀ w ∈ wsU, w.before _ s = true := fun w h => atoms_spec (ws := us_X7_isEgg) B.pre w (List.mem_cons_of_mem _ h)
  have hown : s.vm.findClass RX7 = some m.cls := findClass_of_methodNamed B.named
  have hC : Cx p m c cX7_isEgg 2 s _ wsU RX7 D cy := ⟨⟨hx, hb, hml, hown, hts⟩, hK, hN⟩
  have hW : Wd D cy 27 shM ad A s.heap σ s.heap [] := ⟨hP, hD, va_S.rf, hA⟩
  have hl := lv_entry ([.ref (ad 0), .int p0]) (n := 2) (Nat.le_of_ble_eq_true rfl)
  rw [lg_entry_eq]
  generalize (lg_sl ([.ref (ad 0), .int p0]) ++ List.replicate (2 - (lg_sl ([.ref (ad 0), .int p0])).length) Slot.unset).toArray = ls at hl ⊢
  have hl : lv_has ls 2 [(0, .ref (ad 0)), (1, .int p0)] := hl
  refine lv_iload_n hx hb dX7_isEgg_0 rfl (lv_at hl 1 rfl) ?_
  refine lv_i2l hx hb dX7_isEgg_1 rfl ?_
  refine lv_lconst (v := 0) hx hb dX7_isEgg_2 (by decide) ?_
  refine lv_aload_n hx hb dX7_isEgg_3 rfl (lv_at hl 0 rfl) ?_
  refine r_geti hC hW 0 (Nat.le_of_ble_eq_true rfl) rfl rfl rfl (by decide) inUX7 (hts _ wd_294) rfl dX7_isEgg_4 ?_
  refine lv_iconst (v := 1) hx hb dX7_isEgg_7 (by decide) ?_
  refine lv_isub hx hb dX7_isEgg_8 ?_
  refine lv_i2l hx hb dX7_isEgg_9 rfl ?_
  replace h := bd h
  obtain ⟨r1, hc, h⟩ := h
  refine r_calli hW (va_runS (As := [.long (p0.toInt64), .long 0, .long (((σ 0 0) - 1).toInt64)]) (rest := []) hC.1 (c_X7_in l D cy ad A _ _ _ _ _ hc) (va_cwS 3 hts (gdS wd_298 wd_299 wd_300 wd_297) rfl rfl rfl (by decide +kernel) ⟨Nat.le_of_ble_eq_true rfl, Nat.le_of_ble_eq_true rfl⟩) (r_preS hC hW) rfl rfl hl.1 rfl (lv_room (Nat.le_of_ble_eq_true rfl)) dX7_isEgg_10 ⟨Nat.zero_le _, Nat.zero_le _⟩) (fun H locs hWn => ?_)
  replace hW := hWn
  clear hWn hc
  replace h := oz h
  obtain ⟨hz, h⟩ := h
  exact r_zretP hz hC hr hlocks h hW dX7_isEgg_13
set_option maxHeartbeats 4000000 in
set_option maxRecDepth 100000 in
theorem c_X7_faultOfWeek (l : Launch) (D : va_G) (cy : ClassId × ClassId) (ad : Nat → Nat) (A : Nat → Prop) (N : Nat) (σ : Hp) (r : Int32) (σ' : Hp) (h : t_X7_faultOfWeek N σ = some (r, σ')) : Ci l yX7_faultOfWeek us_X7_faultOfWeek ({ frames := 2, cells := 0, slots := 0, locals := 46 } : Room) D cy 27 shM ad A [.ref (ad 0)] σ r σ' := by
  unfold t_X7_faultOfWeek at h
  refine Met.ofW (cc := cX7_faultOfWeek) (maxL := 7) (ret := (some .int)) (by decide) rfl ?_
  intro p e s m args below meth c s₁ B hml hv
  obtain ⟨rfl, hP, hK, hD, hA, hN⟩ := hv
  have hx := B.exec
  have hb := B.bytes
  have hr := B.returns
  have hlocks := B.notSynchronized
  have hts : ∀ w ∈ wsU, w.before _ s = true := fun w h => atoms_spec (ws := us_X7_faultOfWeek) B.pre w (List.mem_cons_of_mem _ h)
  have hown : s.vm.findClass RX7 = some m.cls := findClass_of_methodNamed B.named
  have hC : Cx p m c cX7_faultOfWeek 7 s _ wsU RX7 D cy := ⟨⟨hx, hb, hml, hown, hts⟩, hK, hN⟩
  have hW : Wd D cy 27 shM ad A s.heap σ s.heap [] := ⟨hP, hD, va_S.rf, hA⟩
  have hl := lv_entry ([.ref (ad 0)]) (n := 7) (Nat.le_of_ble_eq_true rfl)
  rw [lg_entry_eq]
  generalize (lg_sl ([.ref (ad 0)]) ++ List.replicate (7 - (lg_sl ([.ref (ad 0)])).length) Slot.unset).toArray = ls at hl ⊢
  have hl : lv_has ls 7 [(0, .ref (ad 0))] := hl
  have L14 : ∀ (f : Nat) (v1 : Int32) (v2 : Int32) (σ : Hp), t_X7_faultOfWeek_14 N f v1 v2 σ = some (r, σ') → ∀ (H : Heap) (locs : List Loc), Wd D cy 27 shM ad A s.heap σ H locs → ∀ ls : Array Slot, lv_has ls 7 [(0, .ref (ad 0)), (1, .int v1), (2, .int v2)] → Gi p l e us_X7_faultOfWeek ({ frames := 2, cells := 0, slots := 0, locals := 46 } : Room) s m [.ref (ad 0)] below meth c D cy 27 shM ad A r σ' H locs (F0 m 14 ls []) := by
    intro f
    unfold t_X7_faultOfWeek_14
    refine loopG_ind (fun (T : Int32 → Int32 → Hp → Option (Int32 × Hp)) => ∀ (v1 : Int32) (v2 : Int32) (σ : Hp), T v1 v2 σ = some (r, σ') → ∀ (H : Heap) (locs : List Loc), Wd D cy 27 shM ad A s.heap σ H locs → ∀ ls : Array Slot, lv_has ls 7 [(0, .ref (ad 0)), (1, .int v1), (2, .int v2)] → Gi p l e us_X7_faultOfWeek ({ frames := 2, cells := 0, slots := 0, locals := 46 } : Room) s m [.ref (ad 0)] below meth c D cy 27 shM ad A r σ' H locs (F0 m 14 ls [])) ?_ ?_ f
    · intro v1 v2 σ h; exact absurd h (by simp)
    · intro k14 ih14
      have J235 : ∀ (v2 : Int32) (v6 : Int32) (σ : Hp), t_X7_faultOfWeek_235 N k14 v2 v6 σ = some (r, σ') → ∀ (H : Heap) (locs : List Loc), Wd D cy 27 shM ad A s.heap σ H locs → ∀ ls : Array Slot, lv_has ls 7 [(0, .ref (ad 0)), (2, .int v2), (6, .int v6)] → Gi p l e us_X7_faultOfWeek ({ frames := 2, cells := 0, slots := 0, locals := 46 } : Room) s m [.ref (ad 0)] below meth c D cy 27 shM ad A r σ' H locs (F0 m 235 ls []) := by
        intro v2 v6 σ h H locs hW ls hl
        unfold t_X7_faultOfWeek_235 at h
        refine lv_iload hx hb dX7_faultOfWeek_235 (lv_at hl 2 rfl) ?_
        refine lv_istore_n (lv' := [(1, .int v6), (0, .ref (ad 0)), (2, .int v2), (6, .int v6)]) hx hb dX7_faultOfWeek_237 rfl hl (by decide) rfl (fun ls hln => ?_)
        replace hl := hln
        clear hln
        replace h := bx h
        obtain ⟨x1, ex1, h⟩ := h
        refine lv_iinc (v := x1) (lv' := [(2, .int x1), (1, .int v6), (0, .ref (ad 0)), (6, .int v6)]) hx hb dX7_faultOfWeek_238 hl (k := 2) rfl (by rw [ex1]; rfl) (by decide) rfl (fun ls hln => ?_)
        replace hl := hln
        clear hln ex1
        refine lv_goto (tgt := 14) hx hb dX7_faultOfWeek_241 (by decide) ?_
        exact ih14 _ _ _ h _ _ hW _ (lv_sub hl [2, 1, 0] rfl)
      have J222 : ∀ (v2 : Int32) (v6 : Int32) (s1 : Int32) (σ : Hp), t_X7_faultOfWeek_222 N k14 v2 v6 s1 σ = some (r, σ') → ∀ (H : Heap) (locs : List Loc), Wd D cy 27 shM ad A s.heap σ H locs → ∀ ls : Array Slot, lv_has ls 7 [(0, .ref (ad 0)), (2, .int v2), (6, .int v6)] → Gi p l e us_X7_faultOfWeek ({ frames := 2, cells := 0, slots := 0, locals := 46 } : Room) s m [.ref (ad 0)] below meth c D cy 27 shM ad A r σ' H locs (F0 m 222 ls [.int s1, .ref (ad 0)]) := by
        intro v2 v6 s1 σ h H locs hW ls hl
        unfold t_X7_faultOfWeek_222 at h
        replace h := oz h
        obtain ⟨hz, h⟩ := h
        refine r_put hC hW 21 (Nat.le_of_ble_eq_true rfl) rfl rfl rfl (by decide) inUX7 tyX7 tyX7_ok nmX7 (hts _ wd_301) rfl rfl (nz hz) dX7_faultOfWeek_222 (fun σ2 eσ2 H locs hWn => ?_)
        replace h := bn eσ2 h
        replace hW := hWn
        clear hWn eσ2
        refine lv_aload_n hx hb dX7_faultOfWeek_225 rfl (lv_at hl 0 rfl) ?_
        refine lv_dup hx hb dX7_faultOfWeek_226 rfl ?_
        refine r_geti hC hW 20 (Nat.le_of_ble_eq_true rfl) rfl rfl rfl (by decide) inUX7 (hts _ wd_302) rfl dX7_faultOfWeek_227 ?_
        refine lv_iconst (v := 1) hx hb dX7_faultOfWeek_230 (by decide) ?_
        refine lv_iadd hx hb dX7_faultOfWeek_231 ?_
        refine r_put hC hW 20 (Nat.le_of_ble_eq_true rfl) rfl rfl rfl (by decide) inUX7 tyX7 tyX7_ok nmX7 (hts _ wd_302) rfl rfl ⟨rfl, rfl⟩ dX7_faultOfWeek_232 (fun σ3 eσ3 H locs hWn => ?_)
        replace h := bn eσ3 h
        replace hW := hWn
        clear hWn eσ3
        exact J235 _ _ _ h _ _ hW _ (lv_sub hl [0, 1, 2] rfl)
      have J217 : ∀ (v2 : Int32) (v6 : Int32) (σ : Hp), t_X7_faultOfWeek_217 N k14 v2 v6 σ = some (r, σ') → ∀ (H : Heap) (locs : List Loc), Wd D cy 27 shM ad A s.heap σ H locs → ∀ ls : Array Slot, lv_has ls 7 [(0, .ref (ad 0)), (2, .int v2), (6, .int v6)] → Gi p l e us_X7_faultOfWeek ({ frames := 2, cells := 0, slots := 0, locals := 46 } : Room) s m [.ref (ad 0)] below meth c D cy 27 shM ad A r σ' H locs (F0 m 217 ls [.ref (ad 0)]) := by
        intro v2 v6 σ h H locs hW ls hl
        unfold t_X7_faultOfWeek_217 at h
        refine lv_iconst (v := 1) hx hb dX7_faultOfWeek_217 (by decide) ?_
        refine lv_goto (tgt := 222) hx hb dX7_faultOfWeek_218 (by decide) ?_
        exact J222 _ _ _ _ h _ _ hW _ (lv_sub hl [0, 1, 2] rfl)
      have J182 : ∀ (v2 : Int32) (v3 : Int32) (v6 : Int32) (s1 : Int32) (s2 : Int32) (σ : Hp), t_X7_faultOfWeek_182 N k14 v2 v3 v6 s1 s2 σ = some (r, σ') → ∀ (H : Heap) (locs : List Loc), Wd D cy 27 shM ad A s.heap σ H locs → ∀ ls : Array Slot, lv_has ls 7 [(0, .ref (ad 0)), (2, .int v2), (3, .int v3), (6, .int v6)] → Gi p l e us_X7_faultOfWeek ({ frames := 2, cells := 0, slots := 0, locals := 46 } : Room) s m [.ref (ad 0)] below meth c D cy 27 shM ad A r σ' H locs (F0 m 182 ls [.int s2, .int s1, .ref (ad 13)]) := by
        intro v2 v3 v6 s1 s2 σ h H locs hW ls hl
        unfold t_X7_faultOfWeek_182 at h
        replace h := og h
        obtain ⟨hi, h⟩ := h
        refine r_ast hC hW (Nat.le_of_ble_eq_true rfl) rfl hi dX7_faultOfWeek_182 (fun σ4 eσ4 H locs hWn => ?_)
        replace h := bn eσ4 h
        replace hW := hWn
        clear hWn eσ4
        refine lv_aload_n hx hb dX7_faultOfWeek_183 rfl (lv_at hl 0 rfl) ?_
        refine r_getr hC hW 19 (Nat.le_of_ble_eq_true rfl) rfl rfl rfl (by decide) inUX7 (hts _ wd_303) rfl dX7_faultOfWeek_184 ?_
        refine lv_aload_n hx hb dX7_faultOfWeek_187 rfl (lv_at hl 0 rfl) ?_
        refine r_geti hC hW 20 (Nat.le_of_ble_eq_true rfl) rfl rfl rfl (by decide) inUX7 (hts _ wd_302) rfl dX7_faultOfWeek_188 ?_
        refine lv_iload_n hx hb dX7_faultOfWeek_191 rfl (lv_at hl 2 rfl) ?_
        refine lv_bipush (v := 65) hx hb dX7_faultOfWeek_192 (by decide) ?_
        refine lv_isub hx hb dX7_faultOfWeek_194 ?_
        replace h := og h
        obtain ⟨hi, h⟩ := h
        refine r_ast hC hW (Nat.le_of_ble_eq_true rfl) rfl hi dX7_faultOfWeek_195 (fun σ5 eσ5 H locs hWn => ?_)
        replace h := bn eσ5 h
        replace hW := hWn
        clear hWn eσ5
        refine lv_aload_n hx hb dX7_faultOfWeek_196 rfl (lv_at hl 0 rfl) ?_
        refine lv_aload_n hx hb dX7_faultOfWeek_197 rfl (lv_at hl 0 rfl) ?_
        refine r_geti hC hW 21 (Nat.le_of_ble_eq_true rfl) rfl rfl rfl (by decide) inUX7 (hts _ wd_301) rfl dX7_faultOfWeek_198 ?_
        refine lv_if_ne (tgt := 217) hx hb dX7_faultOfWeek_201 (by decide) (fun cq => ?_) (fun cq => ?_)
        · replace h := tn cq h
          exact J217 _ _ _ h _ _ hW _ (lv_sub hl [0, 1, 3] rfl)
        · replace h := tp cq h
          refine lv_aload_n hx hb dX7_faultOfWeek_204 rfl (lv_at hl 0 rfl) ?_
          refine r_getr hC hW 17 (Nat.le_of_ble_eq_true rfl) rfl rfl rfl (by decide) inUX7 (hts _ wd_304) rfl dX7_faultOfWeek_205 ?_
          refine lv_aload_n hx hb dX7_faultOfWeek_208 rfl (lv_at hl 0 rfl) ?_
          refine r_geti hC hW 20 (Nat.le_of_ble_eq_true rfl) rfl rfl rfl (by decide) inUX7 (hts _ wd_302) rfl dX7_faultOfWeek_209 ?_
          replace h := og h
          obtain ⟨hi, h⟩ := h
          refine r_ald hC hW (Nat.le_of_ble_eq_true rfl) rfl hi dX7_faultOfWeek_212 ?_
          refine lv_iconst (v := 2) hx hb dX7_faultOfWeek_213 (by decide) ?_
          refine lv_icmp_le (tgt := 221) hx hb dX7_faultOfWeek_214 (by decide) (fun cq => ?_) (fun cq => ?_)
          · replace h := tp cq h
            refine lv_iconst (v := 0) hx hb dX7_faultOfWeek_221 (by decide) ?_
            exact J222 _ _ _ _ h _ _ hW _ (lv_sub hl [0, 1, 3] rfl)
          · replace h := tn cq h
            exact J217 _ _ _ h _ _ hW _ (lv_sub hl [0, 1, 3] rfl)
      have J113 : ∀ (v1 : Int32) (v2 : Int32) (v3 : Int32) (v4 : Int32) (s0 : Int32) (σ : Hp), t_X7_faultOfWeek_113 N k14 v1 v2 v3 v4 s0 σ = some (r, σ') → ∀ (H : Heap) (locs : List Loc), Wd D cy 27 shM ad A s.heap σ H locs → ∀ ls : Array Slot, lv_has ls 7 [(0, .ref (ad 0)), (1, .int v1), (2, .int v2), (3, .int v3), (4, .int v4)] → Gi p l e us_X7_faultOfWeek ({ frames := 2, cells := 0, slots := 0, locals := 46 } : Room) s m [.ref (ad 0)] below meth c D cy 27 shM ad A r σ' H locs (F0 m 113 ls [.int s0]) := by
        intro v1 v2 v3 v4 s0 σ h H locs hW ls hl
        unfold t_X7_faultOfWeek_113 at h
        refine lv_istore (lv' := [(6, .int s0), (0, .ref (ad 0)), (1, .int v1), (2, .int v2), (3, .int v3), (4, .int v4)]) hx hb dX7_faultOfWeek_113 hl (by decide) rfl (fun ls hln => ?_)
        replace hl := hln
        clear hln
        refine lv_iload hx hb dX7_faultOfWeek_115 (lv_at hl 0 rfl) ?_
        refine lv_if_eq (tgt := 136) hx hb dX7_faultOfWeek_117 (by decide) (fun cq => ?_) (fun cq => ?_)
        · replace h := tp cq h
          refine lv_aload_n hx hb dX7_faultOfWeek_136 rfl (lv_at hl 1 rfl) ?_
          refine r_getr hC hW 17 (Nat.le_of_ble_eq_true rfl) rfl rfl rfl (by decide) inUX7 (hts _ wd_304) rfl dX7_faultOfWeek_137 ?_
          refine lv_aload_n hx hb dX7_faultOfWeek_140 rfl (lv_at hl 1 rfl) ?_
          refine r_geti hC hW 20 (Nat.le_of_ble_eq_true rfl) rfl rfl rfl (by decide) inUX7 (hts _ wd_302) rfl dX7_faultOfWeek_141 ?_
          refine lv_iload_n hx hb dX7_faultOfWeek_144 rfl (lv_at hl 4 rfl) ?_
          refine lv_bipush (v := 46) hx hb dX7_faultOfWeek_145 (by decide) ?_
          refine lv_icmp_ne (tgt := 154) hx hb dX7_faultOfWeek_147 (by decide) (fun cq => ?_) (fun cq => ?_)
          · replace h := tn cq h
            refine lv_iload hx hb dX7_faultOfWeek_154 (lv_at hl 5 rfl) ?_
            refine lv_if_eq (tgt := 171) hx hb dX7_faultOfWeek_156 (by decide) (fun cq => ?_) (fun cq => ?_)
            · replace h := tp cq h
              refine lv_iload_n hx hb dX7_faultOfWeek_171 rfl (lv_at hl 4 rfl) ?_
              refine lv_bipush (v := 33) hx hb dX7_faultOfWeek_172 (by decide) ?_
              refine lv_icmp_ne (tgt := 181) hx hb dX7_faultOfWeek_174 (by decide) (fun cq => ?_) (fun cq => ?_)
              · replace h := tn cq h
                refine lv_iconst (v := 4) hx hb dX7_faultOfWeek_181 (by decide) ?_
                exact J182 _ _ _ _ _ _ h _ _ hW _ (lv_sub hl [1, 3, 4, 0] rfl)
              · replace h := tp cq h
                refine lv_iconst (v := 3) hx hb dX7_faultOfWeek_177 (by decide) ?_
                refine lv_goto (tgt := 182) hx hb dX7_faultOfWeek_178 (by decide) ?_
                exact J182 _ _ _ _ _ _ h _ _ hW _ (lv_sub hl [1, 3, 4, 0] rfl)
            · replace h := tn cq h
              refine lv_iload_n hx hb dX7_faultOfWeek_159 rfl (lv_at hl 2 rfl) ?_
              refine lv_if_eq (tgt := 167) hx hb dX7_faultOfWeek_160 (by decide) (fun cq => ?_) (fun cq => ?_)
              · replace h := tp cq h
                refine lv_iconst (v := 1) hx hb dX7_faultOfWeek_167 (by decide) ?_
                refine lv_goto (tgt := 182) hx hb dX7_faultOfWeek_168 (by decide) ?_
                exact J182 _ _ _ _ _ _ h _ _ hW _ (lv_sub hl [1, 3, 4, 0] rfl)
              · replace h := tn cq h
                refine lv_iconst (v := 2) hx hb dX7_faultOfWeek_163 (by decide) ?_
                refine lv_goto (tgt := 182) hx hb dX7_faultOfWeek_164 (by decide) ?_
                exact J182 _ _ _ _ _ _ h _ _ hW _ (lv_sub hl [1, 3, 4, 0] rfl)
          · replace h := tp cq h
            refine lv_iconst (v := 0) hx hb dX7_faultOfWeek_150 (by decide) ?_
            refine lv_goto (tgt := 182) hx hb dX7_faultOfWeek_151 (by decide) ?_
            exact J182 _ _ _ _ _ _ h _ _ hW _ (lv_sub hl [1, 3, 4, 0] rfl)
        · replace h := tn cq h
          refine lv_aload_n hx hb dX7_faultOfWeek_120 rfl (lv_at hl 1 rfl) ?_
          refine r_getr hC hW 18 (Nat.le_of_ble_eq_true rfl) rfl rfl rfl (by decide) inUX7 (hts _ wd_305) rfl dX7_faultOfWeek_121 ?_
          refine lv_aload_n hx hb dX7_faultOfWeek_124 rfl (lv_at hl 1 rfl) ?_
          refine r_geti hC hW 20 (Nat.le_of_ble_eq_true rfl) rfl rfl rfl (by decide) inUX7 (hts _ wd_302) rfl dX7_faultOfWeek_125 ?_
          refine lv_iload_n hx hb dX7_faultOfWeek_128 rfl (lv_at hl 4 rfl) ?_
          refine lv_bipush (v := 48) hx hb dX7_faultOfWeek_129 (by decide) ?_
          refine lv_isub hx hb dX7_faultOfWeek_131 ?_
          replace h := og h
          obtain ⟨hi, h⟩ := h
          refine r_ast hC hW (Nat.le_of_ble_eq_true rfl) rfl hi dX7_faultOfWeek_132 (fun σ6 eσ6 H locs hWn => ?_)
          replace h := bn eσ6 h
          replace hW := hWn
          clear hWn eσ6
          refine lv_goto (tgt := 235) hx hb dX7_faultOfWeek_133 (by decide) ?_
          exact J235 _ _ _ h _ _ hW _ (lv_sub hl [1, 3, 0] rfl)
      have J112 : ∀ (v1 : Int32) (v2 : Int32) (v3 : Int32) (v4 : Int32) (σ : Hp), t_X7_faultOfWeek_112 N k14 v1 v2 v3 v4 σ = some (r, σ') → ∀ (H : Heap) (locs : List Loc), Wd D cy 27 shM ad A s.heap σ H locs → ∀ ls : Array Slot, lv_has ls 7 [(0, .ref (ad 0)), (1, .int v1), (2, .int v2), (3, .int v3), (4, .int v4)] → Gi p l e us_X7_faultOfWeek ({ frames := 2, cells := 0, slots := 0, locals := 46 } : Room) s m [.ref (ad 0)] below meth c D cy 27 shM ad A r σ' H locs (F0 m 112 ls []) := by
        intro v1 v2 v3 v4 σ h H locs hW ls hl
        unfold t_X7_faultOfWeek_112 at h
        refine lv_iconst (v := 0) hx hb dX7_faultOfWeek_112 (by decide) ?_
        exact J113 _ _ _ _ _ _ h _ _ hW _ (lv_sub hl [0, 1, 2, 3, 4] rfl)
      have J84 : ∀ (v1 : Int32) (v2 : Int32) (v3 : Int32) (v4 : Int32) (s0 : Int32) (σ : Hp), t_X7_faultOfWeek_84 N k14 v1 v2 v3 v4 s0 σ = some (r, σ') → ∀ (H : Heap) (locs : List Loc), Wd D cy 27 shM ad A s.heap σ H locs → ∀ ls : Array Slot, lv_has ls 7 [(0, .ref (ad 0)), (1, .int v1), (2, .int v2), (3, .int v3), (4, .int v4)] → Gi p l e us_X7_faultOfWeek ({ frames := 2, cells := 0, slots := 0, locals := 46 } : Room) s m [.ref (ad 0)] below meth c D cy 27 shM ad A r σ' H locs (F0 m 84 ls [.int s0]) := by
        intro v1 v2 v3 v4 s0 σ h H locs hW ls hl
        unfold t_X7_faultOfWeek_84 at h
        refine lv_istore (lv' := [(5, .int s0), (0, .ref (ad 0)), (1, .int v1), (2, .int v2), (3, .int v3), (4, .int v4)]) hx hb dX7_faultOfWeek_84 hl (by decide) rfl (fun ls hln => ?_)
        replace hl := hln
        clear hln
        refine lv_iload hx hb dX7_faultOfWeek_86 (lv_at hl 0 rfl) ?_
        refine lv_if_ne (tgt := 93) hx hb dX7_faultOfWeek_88 (by decide) (fun cq => ?_) (fun cq => ?_)
        · replace h := tn cq h
          refine lv_iload_n hx hb dX7_faultOfWeek_93 rfl (lv_at hl 2 rfl) ?_
          refine lv_if_ne (tgt := 112) hx hb dX7_faultOfWeek_94 (by decide) (fun cq => ?_) (fun cq => ?_)
          · replace h := tn cq h
            exact J112 _ _ _ _ _ h _ _ hW _ (lv_sub hl [1, 2, 3, 4, 5] rfl)
          · replace h := tp cq h
            refine lv_aload_n hx hb dX7_faultOfWeek_97 rfl (lv_at hl 1 rfl) ?_
            refine lv_iload_n hx hb dX7_faultOfWeek_98 rfl (lv_at hl 4 rfl) ?_
            refine lv_bipush (v := 48) hx hb dX7_faultOfWeek_99 (by decide) ?_
            refine lv_isub hx hb dX7_faultOfWeek_101 ?_
            replace h := bd h
            obtain ⟨r7, hc, h⟩ := h
            refine r_calli hW (va_runV (As := [.int (v3 - 48)]) (rest := []) hC.1 (c_X7_isEgg l D cy ad A _ _ _ hc) (cwV 1 hts (gdV wd_307 wd_308 wd_309 wd_300 wd_306) rfl rfl rfl (by decide +kernel) ⟨Nat.le_of_ble_eq_true rfl, Nat.le_of_ble_eq_true rfl⟩) (r_preV hC hW (Nat.le_of_ble_eq_true rfl) rfl rfl) rfl rfl hl.1 rfl (lv_room (Nat.le_of_ble_eq_true rfl)) dX7_faultOfWeek_102 ⟨Nat.zero_le _, Nat.zero_le _⟩) (fun H locs hWn => ?_)
            replace hW := hWn
            clear hWn hc
            refine lv_if_eq (tgt := 112) hx hb dX7_faultOfWeek_105 (by decide) (fun cq => ?_) (fun cq => ?_)
            · replace h := tp cq h
              exact J112 _ _ _ _ _ h _ _ hW _ (lv_sub hl [1, 2, 3, 4, 5] rfl)
            · replace h := tn cq h
              refine lv_iconst (v := 1) hx hb dX7_faultOfWeek_108 (by decide) ?_
              refine lv_goto (tgt := 113) hx hb dX7_faultOfWeek_109 (by decide) ?_
              exact J113 _ _ _ _ _ _ h _ _ hW _ (lv_sub hl [1, 2, 3, 4, 5] rfl)
        · replace h := tp cq h
          refine lv_iload_n hx hb dX7_faultOfWeek_91 rfl (lv_at hl 3 rfl) ?_
          exact r_iretW hC hr hlocks h hW dX7_faultOfWeek_92
      have J79 : ∀ (v1 : Int32) (v2 : Int32) (v3 : Int32) (v4 : Int32) (σ : Hp), t_X7_faultOfWeek_79 N k14 v1 v2 v3 v4 σ = some (r, σ') → ∀ (H : Heap) (locs : List Loc), Wd D cy 27 shM ad A s.heap σ H locs → ∀ ls : Array Slot, lv_has ls 7 [(0, .ref (ad 0)), (1, .int v1), (2, .int v2), (3, .int v3), (4, .int v4)] → Gi p l e us_X7_faultOfWeek ({ frames := 2, cells := 0, slots := 0, locals := 46 } : Room) s m [.ref (ad 0)] below meth c D cy 27 shM ad A r σ' H locs (F0 m 79 ls []) := by
        intro v1 v2 v3 v4 σ h H locs hW ls hl
        unfold t_X7_faultOfWeek_79 at h
        refine lv_iconst (v := 1) hx hb dX7_faultOfWeek_79 (by decide) ?_
        refine lv_goto (tgt := 84) hx hb dX7_faultOfWeek_80 (by decide) ?_
        exact J84 _ _ _ _ _ _ h _ _ hW _ (lv_sub hl [0, 1, 2, 3, 4] rfl)
      have J83 : ∀ (v1 : Int32) (v2 : Int32) (v3 : Int32) (v4 : Int32) (σ : Hp), t_X7_faultOfWeek_83 N k14 v1 v2 v3 v4 σ = some (r, σ') → ∀ (H : Heap) (locs : List Loc), Wd D cy 27 shM ad A s.heap σ H locs → ∀ ls : Array Slot, lv_has ls 7 [(0, .ref (ad 0)), (1, .int v1), (2, .int v2), (3, .int v3), (4, .int v4)] → Gi p l e us_X7_faultOfWeek ({ frames := 2, cells := 0, slots := 0, locals := 46 } : Room) s m [.ref (ad 0)] below meth c D cy 27 shM ad A r σ' H locs (F0 m 83 ls []) := by
        intro v1 v2 v3 v4 σ h H locs hW ls hl
        unfold t_X7_faultOfWeek_83 at h
        refine lv_iconst (v := 0) hx hb dX7_faultOfWeek_83 (by decide) ?_
        exact J84 _ _ _ _ _ _ h _ _ hW _ (lv_sub hl [0, 1, 2, 3, 4] rfl)
      intro v1 v2 σ h H locs hW ls hl
      refine lv_iload_n hx hb dX7_faultOfWeek_14 rfl (lv_at hl 2 rfl) ?_
      refine lv_aload_n hx hb dX7_faultOfWeek_15 rfl (lv_at hl 0 rfl) ?_
      refine r_geti hC hW 16 (Nat.le_of_ble_eq_true rfl) rfl rfl rfl (by decide) inUX7 (hts _ wd_310) rfl dX7_faultOfWeek_16 ?_
      refine lv_icmp_ge (tgt := 244) hx hb dX7_faultOfWeek_19 (by decide) (fun cq => ?_) (fun cq => ?_)
      · replace h := tp cq h
        refine lv_iload_n hx hb dX7_faultOfWeek_244 rfl (lv_at hl 1 rfl) ?_
        refine lv_if_eq (tgt := 255) hx hb dX7_faultOfWeek_245 (by decide) (fun cq => ?_) (fun cq => ?_)
        · replace h := tp cq h
          refine lv_bipush (v := (-6)) hx hb dX7_faultOfWeek_255 (by decide) ?_
          exact r_iretW hC hr hlocks h hW dX7_faultOfWeek_257
        · replace h := tn cq h
          refine lv_aload_n hx hb dX7_faultOfWeek_248 rfl (lv_at hl 0 rfl) ?_
          refine r_geti hC hW 16 (Nat.le_of_ble_eq_true rfl) rfl rfl rfl (by decide) inUX7 (hts _ wd_310) rfl dX7_faultOfWeek_249 ?_
          refine lv_goto (tgt := 257) hx hb dX7_faultOfWeek_252 (by decide) ?_
          exact r_iretW hC hr hlocks h hW dX7_faultOfWeek_257
      · replace h := tn cq h
        refine lv_aload_n hx hb dX7_faultOfWeek_22 rfl (lv_at hl 0 rfl) ?_
        refine r_getr hC hW 15 (Nat.le_of_ble_eq_true rfl) rfl rfl rfl (by decide) inUX7 (hts _ wd_311) rfl dX7_faultOfWeek_23 ?_
        refine lv_iload_n hx hb dX7_faultOfWeek_26 rfl (lv_at hl 2 rfl) ?_
        replace h := og h
        obtain ⟨hi, h⟩ := h
        refine r_ald hC hW (Nat.le_of_ble_eq_true rfl) rfl hi dX7_faultOfWeek_27 ?_
        replace h := bx h
        obtain ⟨x8, ex8, h⟩ := h
        refine tope ex8 ?_
        clear ex8
        refine lv_istore_n (lv' := [(3, .int x8), (0, .ref (ad 0)), (1, .int v1), (2, .int v2)]) hx hb dX7_faultOfWeek_28 rfl hl (by decide) rfl (fun ls hln => ?_)
        replace hl := hln
        clear hln
        refine lv_iload_n hx hb dX7_faultOfWeek_29 rfl (lv_at hl 0 rfl) ?_
        refine lv_bipush (v := 65) hx hb dX7_faultOfWeek_30 (by decide) ?_
        refine lv_isub hx hb dX7_faultOfWeek_32 ?_
        replace h := bd h
        obtain ⟨r9, hc, h⟩ := h
        refine r_calli hW (va_runS (As := [.int (x8 - 65)]) (rest := []) hC.1 (c_X7_isHouse l D cy ad A _ _ _ hc) (va_cwS 1 hts (gdS wd_313 wd_314 wd_300 wd_312) rfl rfl rfl (by decide +kernel) ⟨Nat.le_of_ble_eq_true rfl, Nat.le_of_ble_eq_true rfl⟩) (r_preS hC hW) rfl rfl hl.1 rfl (lv_room (Nat.le_of_ble_eq_true rfl)) dX7_faultOfWeek_33 ⟨Nat.zero_le _, Nat.zero_le _⟩) (fun H locs hWn => ?_)
        replace hW := hWn
        clear hWn hc
        refine lv_istore (lv' := [(4, .int r9), (3, .int x8), (0, .ref (ad 0)), (1, .int v1), (2, .int v2)]) hx hb dX7_faultOfWeek_36 hl (by decide) rfl (fun ls hln => ?_)
        replace hl := hln
        clear hln
        refine lv_iload hx hb dX7_faultOfWeek_38 (lv_at hl 0 rfl) ?_
        refine lv_if_ne (tgt := 79) hx hb dX7_faultOfWeek_40 (by decide) (fun cq => ?_) (fun cq => ?_)
        · replace h := tn cq h
          exact J79 _ _ _ _ _ h _ _ hW _ (lv_sub hl [2, 3, 4, 1, 0] rfl)
        · replace h := tp cq h
          refine lv_iload_n hx hb dX7_faultOfWeek_43 rfl (lv_at hl 3 rfl) ?_
          refine lv_if_eq (tgt := 62) hx hb dX7_faultOfWeek_44 (by decide) (fun cq => ?_) (fun cq => ?_)
          · replace h := tp cq h
            refine lv_iload_n hx hb dX7_faultOfWeek_62 rfl (lv_at hl 1 rfl) ?_
            refine lv_bipush (v := 46) hx hb dX7_faultOfWeek_63 (by decide) ?_
            refine lv_icmp_eq (tgt := 79) hx hb dX7_faultOfWeek_65 (by decide) (fun cq => ?_) (fun cq => ?_)
            · replace h := tp cq h
              exact J79 _ _ _ _ _ h _ _ hW _ (lv_sub hl [2, 3, 4, 1, 0] rfl)
            · replace h := tn cq h
              refine lv_aload_n hx hb dX7_faultOfWeek_68 rfl (lv_at hl 2 rfl) ?_
              refine lv_iload_n hx hb dX7_faultOfWeek_69 rfl (lv_at hl 1 rfl) ?_
              refine lv_bipush (v := 48) hx hb dX7_faultOfWeek_70 (by decide) ?_
              refine lv_isub hx hb dX7_faultOfWeek_72 ?_
              replace h := bd h
              obtain ⟨r10, hc, h⟩ := h
              refine r_calli hW (va_runV (As := [.int (x8 - 48)]) (rest := []) hC.1 (c_X7_isEgg l D cy ad A _ _ _ hc) (cwV 1 hts (gdV wd_307 wd_308 wd_309 wd_300 wd_306) rfl rfl rfl (by decide +kernel) ⟨Nat.le_of_ble_eq_true rfl, Nat.le_of_ble_eq_true rfl⟩) (r_preV hC hW (Nat.le_of_ble_eq_true rfl) rfl rfl) rfl rfl hl.1 rfl (lv_room (Nat.le_of_ble_eq_true rfl)) dX7_faultOfWeek_73 ⟨Nat.zero_le _, Nat.zero_le _⟩) (fun H locs hWn => ?_)
              replace hW := hWn
              clear hWn hc
              refine lv_if_eq (tgt := 83) hx hb dX7_faultOfWeek_76 (by decide) (fun cq => ?_) (fun cq => ?_)
              · replace h := tp cq h
                exact J83 _ _ _ _ _ h _ _ hW _ (lv_sub hl [2, 3, 4, 1, 0] rfl)
              · replace h := tn cq h
                exact J79 _ _ _ _ _ h _ _ hW _ (lv_sub hl [2, 3, 4, 1, 0] rfl)
          · replace h := tn cq h
            refine lv_iload_n hx hb dX7_faultOfWeek_47 rfl (lv_at hl 1 rfl) ?_
            refine lv_bipush (v := 33) hx hb dX7_faultOfWeek_48 (by decide) ?_
            refine lv_icmp_eq (tgt := 79) hx hb dX7_faultOfWeek_50 (by decide) (fun cq => ?_) (fun cq => ?_)
            · replace h := tp cq h
              exact J79 _ _ _ _ _ h _ _ hW _ (lv_sub hl [2, 3, 4, 1, 0] rfl)
            · replace h := tn cq h
              refine lv_iload_n hx hb dX7_faultOfWeek_53 rfl (lv_at hl 1 rfl) ?_
              refine lv_bipush (v := 43) hx hb dX7_faultOfWeek_54 (by decide) ?_
              refine lv_icmp_ne (tgt := 83) hx hb dX7_faultOfWeek_56 (by decide) (fun cq => ?_) (fun cq => ?_)
              · replace h := tn cq h
                exact J83 _ _ _ _ _ h _ _ hW _ (lv_sub hl [2, 3, 4, 1, 0] rfl)
              · replace h := tp cq h
                refine lv_goto (tgt := 79) hx hb dX7_faultOfWeek_59 (by decide) ?_
                exact J79 _ _ _ _ _ h _ _ hW _ (lv_sub hl [2, 3, 4, 1, 0] rfl)
  refine lv_aload_n hx hb dX7_faultOfWeek_0 rfl (lv_at hl 0 rfl) ?_
  refine lv_iconst (v := 0) hx hb dX7_faultOfWeek_1 (by decide) ?_
  refine r_put hC hW 20 (Nat.le_of_ble_eq_true rfl) rfl rfl rfl (by decide) inUX7 tyX7 tyX7_ok nmX7 (hts _ wd_302) rfl rfl ⟨rfl, rfl⟩ dX7_faultOfWeek_2 (fun σ11 eσ11 H locs hWn => ?_)
  replace h := bn eσ11 h
  replace hW := hWn
  clear hWn eσ11
  refine lv_aload_n hx hb dX7_faultOfWeek_5 rfl (lv_at hl 0 rfl) ?_
  refine lv_iconst (v := 0) hx hb dX7_faultOfWeek_6 (by decide) ?_
  refine r_put hC hW 21 (Nat.le_of_ble_eq_true rfl) rfl rfl rfl (by decide) inUX7 tyX7 tyX7_ok nmX7 (hts _ wd_301) rfl rfl (nz (Or.inl rfl)) dX7_faultOfWeek_7 (fun σ12 eσ12 H locs hWn => ?_)
  replace h := bn eσ12 h
  replace hW := hWn
  clear hWn eσ12
  refine lv_iconst (v := 0) hx hb dX7_faultOfWeek_10 (by decide) ?_
  refine lv_istore_n (lv' := [(1, .int 0), (0, .ref (ad 0))]) hx hb dX7_faultOfWeek_11 rfl hl (by decide) rfl (fun ls hln => ?_)
  replace hl := hln
  clear hln
  refine lv_iconst (v := 0) hx hb dX7_faultOfWeek_12 (by decide) ?_
  refine lv_istore_n (lv' := [(2, .int 0), (1, .int 0), (0, .ref (ad 0))]) hx hb dX7_faultOfWeek_13 rfl hl (by decide) rfl (fun ls hln => ?_)
  replace hl := hln
  clear hln
  exact L14 _ _ _ _ h _ _ hW _ (lv_sub hl [2, 1, 0] rfl)
set_option maxHeartbeats 4000000 in
set_option maxRecDepth 100000 in
theorem c_X7_keepNow (l : Launch) (D : va_G) (cy : ClassId × ClassId) (ad : Nat → Nat) (A : Nat → Prop) (N : Nat) (σ : Hp) (σ' : Hp) (h : t_X7_keepNow N σ = some σ') : Cv l yX7_keepNow us_X7_keepNow ({ frames := 0, cells := 0, slots := 0, locals := 0 } : Room) D cy 27 shM ad A [.ref (ad 0)] σ σ' := by
  unfold t_X7_keepNow at h
  refine Met.ofW (cc := cX7_keepNow) (maxL := 2) (ret := none) (by decide) rfl ?_
  intro p e s m args below meth c s₁ B hml hv
  obtain ⟨rfl, hP, hK, hD, hA, hN⟩ := hv
  have hx := B.exec
  have hb := B.bytes
  have hr := B.returns
  have hlocks := B.notSynchronized
  have hts : ∀ w ∈ wsU, w.before _ s = true := fun w h => atoms_spec (ws := us_X7_keepNow) B.pre w (List.mem_cons_of_mem _ h)
  have hown : s.vm.findClass RX7 = some m.cls := findClass_of_methodNamed B.named
  have hC : Cx p m c cX7_keepNow 2 s _ wsU RX7 D cy := ⟨⟨hx, hb, hml, hown, hts⟩, hK, hN⟩
  have hW : Wd D cy 27 shM ad A s.heap σ s.heap [] := ⟨hP, hD, va_S.rf, hA⟩
  have hl := lv_entry ([.ref (ad 0)]) (n := 2) (Nat.le_of_ble_eq_true rfl)
  rw [lg_entry_eq]
  generalize (lg_sl ([.ref (ad 0)]) ++ List.replicate (2 - (lg_sl ([.ref (ad 0)])).length) Slot.unset).toArray = ls at hl ⊢
  have hl : lv_has ls 2 [(0, .ref (ad 0))] := hl
  have L2 : ∀ (f : Nat) (v1 : Int32) (σ : Hp), t_X7_keepNow_2 N f v1 σ = some σ' → ∀ (H : Heap) (locs : List Loc), Wd D cy 27 shM ad A s.heap σ H locs → ∀ ls : Array Slot, lv_has ls 2 [(0, .ref (ad 0)), (1, .int v1)] → Gv p l e us_X7_keepNow ({ frames := 0, cells := 0, slots := 0, locals := 0 } : Room) s m [.ref (ad 0)] below meth c D cy 27 shM ad A σ' H locs (F0 m 2 ls []) := by
    intro f
    unfold t_X7_keepNow_2
    refine loopG_ind (fun (T : Int32 → Hp → Option Hp) => ∀ (v1 : Int32) (σ : Hp), T v1 σ = some σ' → ∀ (H : Heap) (locs : List Loc), Wd D cy 27 shM ad A s.heap σ H locs → ∀ ls : Array Slot, lv_has ls 2 [(0, .ref (ad 0)), (1, .int v1)] → Gv p l e us_X7_keepNow ({ frames := 0, cells := 0, slots := 0, locals := 0 } : Room) s m [.ref (ad 0)] below meth c D cy 27 shM ad A σ' H locs (F0 m 2 ls [])) ?_ ?_ f
    · intro v1 σ h; exact absurd h (by simp)
    · intro k2 ih2
      intro v1 σ h H locs hW ls hl
      refine lv_iload_n hx hb dX7_keepNow_2 rfl (lv_at hl 1 rfl) ?_
      refine lv_bipush (v := 7) hx hb dX7_keepNow_3 (by decide) ?_
      refine lv_icmp_ge (tgt := 56) hx hb dX7_keepNow_5 (by decide) (fun cq => ?_) (fun cq => ?_)
      · replace h := tp cq h
        refine lv_aload_n hx hb dX7_keepNow_56 rfl (lv_at hl 0 rfl) ?_
        refine r_getr hC hW 28 (Nat.le_of_ble_eq_true rfl) rfl rfl rfl (by decide) inUX7 (hts _ wd_315) rfl dX7_keepNow_57 ?_
        refine lv_bipush (v := 21) hx hb dX7_keepNow_60 (by decide) ?_
        refine lv_aload_n hx hb dX7_keepNow_62 rfl (lv_at hl 0 rfl) ?_
        refine r_geti hC hW 7 (Nat.le_of_ble_eq_true rfl) rfl rfl rfl (by decide) inUX7 (hts _ wd_316) rfl dX7_keepNow_63 ?_
        replace h := og h
        obtain ⟨hi, h⟩ := h
        refine r_ast hC hW (Nat.le_of_ble_eq_true rfl) rfl hi dX7_keepNow_66 (fun σ1 eσ1 H locs hWn => ?_)
        replace h := bn eσ1 h
        replace hW := hWn
        clear hWn eσ1
        exact r_vretW hC hr hlocks h hW dX7_keepNow_67
      · replace h := tn cq h
        refine lv_aload_n hx hb dX7_keepNow_8 rfl (lv_at hl 0 rfl) ?_
        refine r_getr hC hW 28 (Nat.le_of_ble_eq_true rfl) rfl rfl rfl (by decide) inUX7 (hts _ wd_315) rfl dX7_keepNow_9 ?_
        refine lv_iload_n hx hb dX7_keepNow_12 rfl (lv_at hl 1 rfl) ?_
        refine lv_aload_n hx hb dX7_keepNow_13 rfl (lv_at hl 0 rfl) ?_
        refine r_getr hC hW 2 (Nat.le_of_ble_eq_true rfl) rfl rfl rfl (by decide) inUX7 (hts _ wd_317) rfl dX7_keepNow_14 ?_
        refine lv_iload_n hx hb dX7_keepNow_17 rfl (lv_at hl 1 rfl) ?_
        replace h := og h
        obtain ⟨hi, h⟩ := h
        refine r_ald hC hW (Nat.le_of_ble_eq_true rfl) rfl hi dX7_keepNow_18 ?_
        replace h := og h
        obtain ⟨hi, h⟩ := h
        refine r_ast hC hW (Nat.le_of_ble_eq_true rfl) rfl hi dX7_keepNow_19 (fun σ2 eσ2 H locs hWn => ?_)
        replace h := bn eσ2 h
        replace hW := hWn
        clear hWn eσ2
        refine lv_aload_n hx hb dX7_keepNow_20 rfl (lv_at hl 0 rfl) ?_
        refine r_getr hC hW 28 (Nat.le_of_ble_eq_true rfl) rfl rfl rfl (by decide) inUX7 (hts _ wd_315) rfl dX7_keepNow_21 ?_
        refine lv_bipush (v := 7) hx hb dX7_keepNow_24 (by decide) ?_
        refine lv_iload_n hx hb dX7_keepNow_26 rfl (lv_at hl 1 rfl) ?_
        refine lv_iadd hx hb dX7_keepNow_27 ?_
        refine lv_aload_n hx hb dX7_keepNow_28 rfl (lv_at hl 0 rfl) ?_
        refine r_getr hC hW 4 (Nat.le_of_ble_eq_true rfl) rfl rfl rfl (by decide) inUX7 (hts _ wd_318) rfl dX7_keepNow_29 ?_
        refine lv_iload_n hx hb dX7_keepNow_32 rfl (lv_at hl 1 rfl) ?_
        replace h := og h
        obtain ⟨hi, h⟩ := h
        refine r_ald hC hW (Nat.le_of_ble_eq_true rfl) rfl hi dX7_keepNow_33 ?_
        replace h := og h
        obtain ⟨hi, h⟩ := h
        refine r_ast hC hW (Nat.le_of_ble_eq_true rfl) rfl hi dX7_keepNow_34 (fun σ3 eσ3 H locs hWn => ?_)
        replace h := bn eσ3 h
        replace hW := hWn
        clear hWn eσ3
        refine lv_aload_n hx hb dX7_keepNow_35 rfl (lv_at hl 0 rfl) ?_
        refine r_getr hC hW 28 (Nat.le_of_ble_eq_true rfl) rfl rfl rfl (by decide) inUX7 (hts _ wd_315) rfl dX7_keepNow_36 ?_
        refine lv_bipush (v := 14) hx hb dX7_keepNow_39 (by decide) ?_
        refine lv_iload_n hx hb dX7_keepNow_41 rfl (lv_at hl 1 rfl) ?_
        refine lv_iadd hx hb dX7_keepNow_42 ?_
        refine lv_aload_n hx hb dX7_keepNow_43 rfl (lv_at hl 0 rfl) ?_
        refine r_getr hC hW 5 (Nat.le_of_ble_eq_true rfl) rfl rfl rfl (by decide) inUX7 (hts _ wd_295) rfl dX7_keepNow_44 ?_
        refine lv_iload_n hx hb dX7_keepNow_47 rfl (lv_at hl 1 rfl) ?_
        replace h := og h
        obtain ⟨hi, h⟩ := h
        refine r_ald hC hW (Nat.le_of_ble_eq_true rfl) rfl hi dX7_keepNow_48 ?_
        replace h := og h
        obtain ⟨hi, h⟩ := h
        refine r_ast hC hW (Nat.le_of_ble_eq_true rfl) rfl hi dX7_keepNow_49 (fun σ4 eσ4 H locs hWn => ?_)
        replace h := bn eσ4 h
        replace hW := hWn
        clear hWn eσ4
        replace h := bx h
        obtain ⟨x5, ex5, h⟩ := h
        refine lv_iinc (v := x5) (lv' := [(1, .int x5), (0, .ref (ad 0))]) hx hb dX7_keepNow_50 hl (k := 1) rfl (by rw [ex5]; rfl) (by decide) rfl (fun ls hln => ?_)
        replace hl := hln
        clear hln ex5
        refine lv_goto (tgt := 2) hx hb dX7_keepNow_53 (by decide) ?_
        exact ih2 _ _ h _ _ hW _ (lv_sub hl [1, 0] rfl)
  refine lv_iconst (v := 0) hx hb dX7_keepNow_0 (by decide) ?_
  refine lv_istore_n (lv' := [(1, .int 0), (0, .ref (ad 0))]) hx hb dX7_keepNow_1 rfl hl (by decide) rfl (fun ls hln => ?_)
  replace hl := hln
  clear hln
  exact L2 _ _ _ h _ _ hW _ (lv_sub hl [1, 0] rfl)
set_option maxHeartbeats 4000000 in
set_option maxRecDepth 100000 in
theorem c_X7_fitsClues (l : Launch) (D : va_G) (cy : ClassId × ClassId) (ad : Nat → Nat) (A : Nat → Prop) (N : Nat) (σ : Hp) (r : Int32) (σ' : Hp) (h : t_X7_fitsClues N σ = some (r, σ')) : Ci l yX7_fitsClues us_X7_fitsClues ({ frames := 0, cells := 0, slots := 0, locals := 0 } : Room) D cy 27 shM ad A [.ref (ad 0)] σ r σ' := by
  unfold t_X7_fitsClues at h
  refine Met.ofW (cc := cX7_fitsClues) (maxL := 6) (ret := (some .boolean)) (by decide) rfl ?_
  intro p e s m args below meth c s₁ B hml hv
  obtain ⟨rfl, hP, hK, hD, hA, hN⟩ := hv
  have hx := B.exec
  have hb := B.bytes
  have hr := B.returns
  have hlocks := B.notSynchronized
  have hts : ∀ w ∈ wsU, w.before _ s = true := fun w h => atoms_spec (ws := us_X7_fitsClues) B.pre w (List.mem_cons_of_mem _ h)
  have hown : s.vm.findClass RX7 = some m.cls := findClass_of_methodNamed B.named
  have hC : Cx p m c cX7_fitsClues 6 s _ wsU RX7 D cy := ⟨⟨hx, hb, hml, hown, hts⟩, hK, hN⟩
  have hW : Wd D cy 27 shM ad A s.heap σ s.heap [] := ⟨hP, hD, va_S.rf, hA⟩
  have hl := lv_entry ([.ref (ad 0)]) (n := 6) (Nat.le_of_ble_eq_true rfl)
  rw [lg_entry_eq]
  generalize (lg_sl ([.ref (ad 0)]) ++ List.replicate (6 - (lg_sl ([.ref (ad 0)])).length) Slot.unset).toArray = ls at hl ⊢
  have hl : lv_has ls 6 [(0, .ref (ad 0))] := hl
  have L32 : ∀ (f : Nat) (v1 : Int32) (v2 : Int32) (σ : Hp), t_X7_fitsClues_32 N f v1 v2 σ = some (r, σ') → ∀ (H : Heap) (locs : List Loc), Wd D cy 27 shM ad A s.heap σ H locs → ∀ ls : Array Slot, lv_has ls 6 [(0, .ref (ad 0)), (1, .int v1), (2, .int v2)] → Gi p l e us_X7_fitsClues ({ frames := 0, cells := 0, slots := 0, locals := 0 } : Room) s m [.ref (ad 0)] below meth c D cy 27 shM ad A r σ' H locs (F0 m 32 ls []) := by
    intro f
    unfold t_X7_fitsClues_32
    refine loopG_ind (fun (T : Int32 → Int32 → Hp → Option (Int32 × Hp)) => ∀ (v1 : Int32) (v2 : Int32) (σ : Hp), T v1 v2 σ = some (r, σ') → ∀ (H : Heap) (locs : List Loc), Wd D cy 27 shM ad A s.heap σ H locs → ∀ ls : Array Slot, lv_has ls 6 [(0, .ref (ad 0)), (1, .int v1), (2, .int v2)] → Gi p l e us_X7_fitsClues ({ frames := 0, cells := 0, slots := 0, locals := 0 } : Room) s m [.ref (ad 0)] below meth c D cy 27 shM ad A r σ' H locs (F0 m 32 ls [])) ?_ ?_ f
    · intro v1 v2 σ h; exact absurd h (by simp)
    · intro k32 ih32
      have J184 : ∀ (v2 : Int32) (s0 : Int32) (σ : Hp), t_X7_fitsClues_184 N k32 v2 s0 σ = some (r, σ') → ∀ (H : Heap) (locs : List Loc), Wd D cy 27 shM ad A s.heap σ H locs → ∀ ls : Array Slot, lv_has ls 6 [(0, .ref (ad 0)), (2, .int v2)] → Gi p l e us_X7_fitsClues ({ frames := 0, cells := 0, slots := 0, locals := 0 } : Room) s m [.ref (ad 0)] below meth c D cy 27 shM ad A r σ' H locs (F0 m 184 ls [.int s0]) := by
        intro v2 s0 σ h H locs hW ls hl
        unfold t_X7_fitsClues_184 at h
        refine lv_istore_n (lv' := [(1, .int s0), (0, .ref (ad 0)), (2, .int v2)]) hx hb dX7_fitsClues_184 rfl hl (by decide) rfl (fun ls hln => ?_)
        replace hl := hln
        clear hln
        replace h := bx h
        obtain ⟨x1, ex1, h⟩ := h
        refine lv_iinc (v := x1) (lv' := [(2, .int x1), (1, .int s0), (0, .ref (ad 0))]) hx hb dX7_fitsClues_185 hl (k := 2) rfl (by rw [ex1]; rfl) (by decide) rfl (fun ls hln => ?_)
        replace hl := hln
        clear hln ex1
        refine lv_goto (tgt := 32) hx hb dX7_fitsClues_188 (by decide) ?_
        exact ih32 _ _ _ h _ _ hW _ (lv_sub hl [2, 1, 0] rfl)
      have J183 : ∀ (v2 : Int32) (σ : Hp), t_X7_fitsClues_183 N k32 v2 σ = some (r, σ') → ∀ (H : Heap) (locs : List Loc), Wd D cy 27 shM ad A s.heap σ H locs → ∀ ls : Array Slot, lv_has ls 6 [(0, .ref (ad 0)), (2, .int v2)] → Gi p l e us_X7_fitsClues ({ frames := 0, cells := 0, slots := 0, locals := 0 } : Room) s m [.ref (ad 0)] below meth c D cy 27 shM ad A r σ' H locs (F0 m 183 ls []) := by
        intro v2 σ h H locs hW ls hl
        unfold t_X7_fitsClues_183 at h
        refine lv_iconst (v := 0) hx hb dX7_fitsClues_183 (by decide) ?_
        exact J184 _ _ _ h _ _ hW _ (lv_sub hl [0, 1] rfl)
      have J168 : ∀ (v1 : Int32) (v2 : Int32) (s0 : Int32) (σ : Hp), t_X7_fitsClues_168 N k32 v1 v2 s0 σ = some (r, σ') → ∀ (H : Heap) (locs : List Loc), Wd D cy 27 shM ad A s.heap σ H locs → ∀ ls : Array Slot, lv_has ls 6 [(0, .ref (ad 0)), (1, .int v1), (2, .int v2)] → Gi p l e us_X7_fitsClues ({ frames := 0, cells := 0, slots := 0, locals := 0 } : Room) s m [.ref (ad 0)] below meth c D cy 27 shM ad A r σ' H locs (F0 m 168 ls [.int s0]) := by
        intro v1 v2 s0 σ h H locs hW ls hl
        unfold t_X7_fitsClues_168 at h
        refine lv_istore (lv' := [(5, .int s0), (0, .ref (ad 0)), (1, .int v1), (2, .int v2)]) hx hb dX7_fitsClues_168 hl (by decide) rfl (fun ls hln => ?_)
        replace hl := hln
        clear hln
        refine lv_iload_n hx hb dX7_fitsClues_170 rfl (lv_at hl 2 rfl) ?_
        refine lv_if_eq (tgt := 183) hx hb dX7_fitsClues_171 (by decide) (fun cq => ?_) (fun cq => ?_)
        · replace h := tp cq h
          exact J183 _ _ h _ _ hW _ (lv_sub hl [1, 3] rfl)
        · replace h := tn cq h
          refine lv_iload hx hb dX7_fitsClues_174 (lv_at hl 0 rfl) ?_
          refine lv_if_eq (tgt := 183) hx hb dX7_fitsClues_176 (by decide) (fun cq => ?_) (fun cq => ?_)
          · replace h := tp cq h
            exact J183 _ _ h _ _ hW _ (lv_sub hl [1, 3] rfl)
          · replace h := tn cq h
            refine lv_iconst (v := 1) hx hb dX7_fitsClues_179 (by decide) ?_
            refine lv_goto (tgt := 184) hx hb dX7_fitsClues_180 (by decide) ?_
            exact J184 _ _ _ h _ _ hW _ (lv_sub hl [1, 3] rfl)
      have J82 : ∀ (v1 : Int32) (v2 : Int32) (v3 : Int32) (s0 : Int32) (σ : Hp), t_X7_fitsClues_82 N k32 v1 v2 v3 s0 σ = some (r, σ') → ∀ (H : Heap) (locs : List Loc), Wd D cy 27 shM ad A s.heap σ H locs → ∀ ls : Array Slot, lv_has ls 6 [(0, .ref (ad 0)), (1, .int v1), (2, .int v2), (3, .int v3)] → Gi p l e us_X7_fitsClues ({ frames := 0, cells := 0, slots := 0, locals := 0 } : Room) s m [.ref (ad 0)] below meth c D cy 27 shM ad A r σ' H locs (F0 m 82 ls [.int s0]) := by
        intro v1 v2 v3 s0 σ h H locs hW ls hl
        unfold t_X7_fitsClues_82 at h
        refine lv_istore (lv' := [(4, .int s0), (0, .ref (ad 0)), (1, .int v1), (2, .int v2), (3, .int v3)]) hx hb dX7_fitsClues_82 hl (by decide) rfl (fun ls hln => ?_)
        replace hl := hln
        clear hln
        refine lv_aload_n hx hb dX7_fitsClues_84 rfl (lv_at hl 1 rfl) ?_
        refine r_getr hC hW 8 (Nat.le_of_ble_eq_true rfl) rfl rfl rfl (by decide) inUX7 (hts _ wd_319) rfl dX7_fitsClues_85 ?_
        refine lv_iload_n hx hb dX7_fitsClues_88 rfl (lv_at hl 3 rfl) ?_
        replace h := og h
        obtain ⟨hi, h⟩ := h
        refine r_ald hC hW (Nat.le_of_ble_eq_true rfl) rfl hi dX7_fitsClues_89 ?_
        refine lv_if_ne (tgt := 107) hx hb dX7_fitsClues_90 (by decide) (fun cq => ?_) (fun cq => ?_)
        · replace h := tn cq h
          refine lv_aload_n hx hb dX7_fitsClues_107 rfl (lv_at hl 1 rfl) ?_
          refine r_getr hC hW 8 (Nat.le_of_ble_eq_true rfl) rfl rfl rfl (by decide) inUX7 (hts _ wd_319) rfl dX7_fitsClues_108 ?_
          refine lv_iload_n hx hb dX7_fitsClues_111 rfl (lv_at hl 3 rfl) ?_
          replace h := og h
          obtain ⟨hi, h⟩ := h
          refine r_ald hC hW (Nat.le_of_ble_eq_true rfl) rfl hi dX7_fitsClues_112 ?_
          refine lv_iconst (v := 1) hx hb dX7_fitsClues_113 (by decide) ?_
          refine lv_icmp_ne (tgt := 133) hx hb dX7_fitsClues_114 (by decide) (fun cq => ?_) (fun cq => ?_)
          · replace h := tn cq h
            refine lv_aload_n hx hb dX7_fitsClues_133 rfl (lv_at hl 1 rfl) ?_
            refine r_getr hC hW 8 (Nat.le_of_ble_eq_true rfl) rfl rfl rfl (by decide) inUX7 (hts _ wd_319) rfl dX7_fitsClues_134 ?_
            refine lv_iload_n hx hb dX7_fitsClues_137 rfl (lv_at hl 3 rfl) ?_
            replace h := og h
            obtain ⟨hi, h⟩ := h
            refine r_ald hC hW (Nat.le_of_ble_eq_true rfl) rfl hi dX7_fitsClues_138 ?_
            refine lv_iconst (v := 2) hx hb dX7_fitsClues_139 (by decide) ?_
            refine lv_icmp_ne (tgt := 157) hx hb dX7_fitsClues_140 (by decide) (fun cq => ?_) (fun cq => ?_)
            · replace h := tn cq h
              refine lv_iload_n hx hb dX7_fitsClues_157 rfl (lv_at hl 4 rfl) ?_
              refine lv_iload hx hb dX7_fitsClues_158 (lv_at hl 0 rfl) ?_
              refine lv_icmp_eq (tgt := 167) hx hb dX7_fitsClues_160 (by decide) (fun cq => ?_) (fun cq => ?_)
              · replace h := tp cq h
                refine lv_iconst (v := 0) hx hb dX7_fitsClues_167 (by decide) ?_
                exact J168 _ _ _ _ h _ _ hW _ (lv_sub hl [1, 2, 3] rfl)
              · replace h := tn cq h
                refine lv_iconst (v := 1) hx hb dX7_fitsClues_163 (by decide) ?_
                refine lv_goto (tgt := 168) hx hb dX7_fitsClues_164 (by decide) ?_
                exact J168 _ _ _ _ h _ _ hW _ (lv_sub hl [1, 2, 3] rfl)
            · replace h := tp cq h
              refine lv_iload_n hx hb dX7_fitsClues_143 rfl (lv_at hl 4 rfl) ?_
              refine lv_iload hx hb dX7_fitsClues_144 (lv_at hl 0 rfl) ?_
              refine lv_icmp_ne (tgt := 153) hx hb dX7_fitsClues_146 (by decide) (fun cq => ?_) (fun cq => ?_)
              · replace h := tn cq h
                refine lv_iconst (v := 0) hx hb dX7_fitsClues_153 (by decide) ?_
                refine lv_goto (tgt := 168) hx hb dX7_fitsClues_154 (by decide) ?_
                exact J168 _ _ _ _ h _ _ hW _ (lv_sub hl [1, 2, 3] rfl)
              · replace h := tp cq h
                refine lv_iconst (v := 1) hx hb dX7_fitsClues_149 (by decide) ?_
                refine lv_goto (tgt := 168) hx hb dX7_fitsClues_150 (by decide) ?_
                exact J168 _ _ _ _ h _ _ hW _ (lv_sub hl [1, 2, 3] rfl)
          · replace h := tp cq h
            refine lv_iload_n hx hb dX7_fitsClues_117 rfl (lv_at hl 4 rfl) ?_
            refine lv_iconst (v := 1) hx hb dX7_fitsClues_118 (by decide) ?_
            refine lv_iadd hx hb dX7_fitsClues_119 ?_
            refine lv_iload hx hb dX7_fitsClues_120 (lv_at hl 0 rfl) ?_
            refine lv_icmp_ne (tgt := 129) hx hb dX7_fitsClues_122 (by decide) (fun cq => ?_) (fun cq => ?_)
            · replace h := tn cq h
              refine lv_iconst (v := 0) hx hb dX7_fitsClues_129 (by decide) ?_
              refine lv_goto (tgt := 168) hx hb dX7_fitsClues_130 (by decide) ?_
              exact J168 _ _ _ _ h _ _ hW _ (lv_sub hl [1, 2, 3] rfl)
            · replace h := tp cq h
              refine lv_iconst (v := 1) hx hb dX7_fitsClues_125 (by decide) ?_
              refine lv_goto (tgt := 168) hx hb dX7_fitsClues_126 (by decide) ?_
              exact J168 _ _ _ _ h _ _ hW _ (lv_sub hl [1, 2, 3] rfl)
        · replace h := tp cq h
          refine lv_iload_n hx hb dX7_fitsClues_93 rfl (lv_at hl 4 rfl) ?_
          refine lv_iload hx hb dX7_fitsClues_94 (lv_at hl 0 rfl) ?_
          refine lv_icmp_ge (tgt := 103) hx hb dX7_fitsClues_96 (by decide) (fun cq => ?_) (fun cq => ?_)
          · replace h := tp cq h
            refine lv_iconst (v := 0) hx hb dX7_fitsClues_103 (by decide) ?_
            refine lv_goto (tgt := 168) hx hb dX7_fitsClues_104 (by decide) ?_
            exact J168 _ _ _ _ h _ _ hW _ (lv_sub hl [1, 2, 3] rfl)
          · replace h := tn cq h
            refine lv_iconst (v := 1) hx hb dX7_fitsClues_99 (by decide) ?_
            refine lv_goto (tgt := 168) hx hb dX7_fitsClues_100 (by decide) ?_
            exact J168 _ _ _ _ h _ _ hW _ (lv_sub hl [1, 2, 3] rfl)
      intro v1 v2 σ h H locs hW ls hl
      refine lv_iload_n hx hb dX7_fitsClues_32 rfl (lv_at hl 2 rfl) ?_
      refine lv_aload_n hx hb dX7_fitsClues_33 rfl (lv_at hl 0 rfl) ?_
      refine r_geti hC hW 11 (Nat.le_of_ble_eq_true rfl) rfl rfl rfl (by decide) inUX7 (hts _ wd_320) rfl dX7_fitsClues_34 ?_
      refine lv_icmp_ge (tgt := 191) hx hb dX7_fitsClues_37 (by decide) (fun cq => ?_) (fun cq => ?_)
      · replace h := tp cq h
        refine lv_iload_n hx hb dX7_fitsClues_191 rfl (lv_at hl 1 rfl) ?_
        replace h := oz h
        obtain ⟨hz, h⟩ := h
        exact r_zretW hz hC hr hlocks h hW dX7_fitsClues_192
      · replace h := tn cq h
        refine lv_aload_n hx hb dX7_fitsClues_40 rfl (lv_at hl 0 rfl) ?_
        refine r_getr hC hW 32 (Nat.le_of_ble_eq_true rfl) rfl rfl rfl (by decide) inUX7 (hts _ wd_321) rfl dX7_fitsClues_41 ?_
        refine lv_aload_n hx hb dX7_fitsClues_44 rfl (lv_at hl 0 rfl) ?_
        refine r_getr hC hW 9 (Nat.le_of_ble_eq_true rfl) rfl rfl rfl (by decide) inUX7 (hts _ wd_322) rfl dX7_fitsClues_45 ?_
        refine lv_iload_n hx hb dX7_fitsClues_48 rfl (lv_at hl 2 rfl) ?_
        replace h := og h
        obtain ⟨hi, h⟩ := h
        refine r_ald hC hW (Nat.le_of_ble_eq_true rfl) rfl hi dX7_fitsClues_49 ?_
        replace h := og h
        obtain ⟨hi, h⟩ := h
        refine r_ald hC hW (Nat.le_of_ble_eq_true rfl) rfl hi dX7_fitsClues_50 ?_
        replace h := bx h
        obtain ⟨x2, ex2, h⟩ := h
        refine tope ex2 ?_
        clear ex2
        refine lv_istore_n (lv' := [(3, .int x2), (0, .ref (ad 0)), (1, .int v1), (2, .int v2)]) hx hb dX7_fitsClues_51 rfl hl (by decide) rfl (fun ls hln => ?_)
        replace hl := hln
        clear hln
        refine lv_aload_n hx hb dX7_fitsClues_52 rfl (lv_at hl 1 rfl) ?_
        refine r_getr hC hW 8 (Nat.le_of_ble_eq_true rfl) rfl rfl rfl (by decide) inUX7 (hts _ wd_319) rfl dX7_fitsClues_53 ?_
        refine lv_iload_n hx hb dX7_fitsClues_56 rfl (lv_at hl 3 rfl) ?_
        replace h := og h
        obtain ⟨hi, h⟩ := h
        refine r_ald hC hW (Nat.le_of_ble_eq_true rfl) rfl hi dX7_fitsClues_57 ?_
        refine lv_iconst (v := 2) hx hb dX7_fitsClues_58 (by decide) ?_
        refine lv_icmp_ge (tgt := 76) hx hb dX7_fitsClues_59 (by decide) (fun cq => ?_) (fun cq => ?_)
        · replace h := tp cq h
          refine lv_aload_n hx hb dX7_fitsClues_76 rfl (lv_at hl 1 rfl) ?_
          refine r_getr hC hW 10 (Nat.le_of_ble_eq_true rfl) rfl rfl rfl (by decide) inUX7 (hts _ wd_323) rfl dX7_fitsClues_77 ?_
          refine lv_iload_n hx hb dX7_fitsClues_80 rfl (lv_at hl 3 rfl) ?_
          replace h := og h
          obtain ⟨hi, h⟩ := h
          refine r_ald hC hW (Nat.le_of_ble_eq_true rfl) rfl hi dX7_fitsClues_81 ?_
          exact J82 _ _ _ _ _ h _ _ hW _ (lv_sub hl [1, 2, 3, 0] rfl)
        · replace h := tn cq h
          refine lv_aload_n hx hb dX7_fitsClues_62 rfl (lv_at hl 1 rfl) ?_
          refine r_getr hC hW 32 (Nat.le_of_ble_eq_true rfl) rfl rfl rfl (by decide) inUX7 (hts _ wd_321) rfl dX7_fitsClues_63 ?_
          refine lv_aload_n hx hb dX7_fitsClues_66 rfl (lv_at hl 1 rfl) ?_
          refine r_getr hC hW 10 (Nat.le_of_ble_eq_true rfl) rfl rfl rfl (by decide) inUX7 (hts _ wd_323) rfl dX7_fitsClues_67 ?_
          refine lv_iload_n hx hb dX7_fitsClues_70 rfl (lv_at hl 3 rfl) ?_
          replace h := og h
          obtain ⟨hi, h⟩ := h
          refine r_ald hC hW (Nat.le_of_ble_eq_true rfl) rfl hi dX7_fitsClues_71 ?_
          replace h := og h
          obtain ⟨hi, h⟩ := h
          refine r_ald hC hW (Nat.le_of_ble_eq_true rfl) rfl hi dX7_fitsClues_72 ?_
          refine lv_goto (tgt := 82) hx hb dX7_fitsClues_73 (by decide) ?_
          exact J82 _ _ _ _ _ h _ _ hW _ (lv_sub hl [1, 2, 3, 0] rfl)
  have L2 : ∀ (f : Nat) (v1 : Int32) (σ : Hp), t_X7_fitsClues_2 N f v1 σ = some (r, σ') → ∀ (H : Heap) (locs : List Loc), Wd D cy 27 shM ad A s.heap σ H locs → ∀ ls : Array Slot, lv_has ls 6 [(0, .ref (ad 0)), (1, .int v1)] → Gi p l e us_X7_fitsClues ({ frames := 0, cells := 0, slots := 0, locals := 0 } : Room) s m [.ref (ad 0)] below meth c D cy 27 shM ad A r σ' H locs (F0 m 2 ls []) := by
    intro f
    unfold t_X7_fitsClues_2
    refine loopG_ind (fun (T : Int32 → Hp → Option (Int32 × Hp)) => ∀ (v1 : Int32) (σ : Hp), T v1 σ = some (r, σ') → ∀ (H : Heap) (locs : List Loc), Wd D cy 27 shM ad A s.heap σ H locs → ∀ ls : Array Slot, lv_has ls 6 [(0, .ref (ad 0)), (1, .int v1)] → Gi p l e us_X7_fitsClues ({ frames := 0, cells := 0, slots := 0, locals := 0 } : Room) s m [.ref (ad 0)] below meth c D cy 27 shM ad A r σ' H locs (F0 m 2 ls [])) ?_ ?_ f
    · intro v1 σ h; exact absurd h (by simp)
    · intro k2 ih2
      intro v1 σ h H locs hW ls hl
      refine lv_iload_n hx hb dX7_fitsClues_2 rfl (lv_at hl 1 rfl) ?_
      refine lv_aload_n hx hb dX7_fitsClues_3 rfl (lv_at hl 0 rfl) ?_
      refine r_geti hC hW 0 (Nat.le_of_ble_eq_true rfl) rfl rfl rfl (by decide) inUX7 (hts _ wd_294) rfl dX7_fitsClues_4 ?_
      refine lv_icmp_ge (tgt := 28) hx hb dX7_fitsClues_7 (by decide) (fun cq => ?_) (fun cq => ?_)
      · replace h := tp cq h
        refine lv_iconst (v := 1) hx hb dX7_fitsClues_28 (by decide) ?_
        refine lv_istore_n (lv' := [(1, .int 1), (0, .ref (ad 0))]) hx hb dX7_fitsClues_29 rfl hl (by decide) rfl (fun ls hln => ?_)
        replace hl := hln
        clear hln
        refine lv_iconst (v := 0) hx hb dX7_fitsClues_30 (by decide) ?_
        refine lv_istore_n (lv' := [(2, .int 0), (1, .int 1), (0, .ref (ad 0))]) hx hb dX7_fitsClues_31 rfl hl (by decide) rfl (fun ls hln => ?_)
        replace hl := hln
        clear hln
        exact L32 _ _ _ _ h _ _ hW _ (lv_sub hl [2, 1, 0] rfl)
      · replace h := tn cq h
        refine lv_aload_n hx hb dX7_fitsClues_10 rfl (lv_at hl 0 rfl) ?_
        refine r_getr hC hW 32 (Nat.le_of_ble_eq_true rfl) rfl rfl rfl (by decide) inUX7 (hts _ wd_321) rfl dX7_fitsClues_11 ?_
        refine lv_aload_n hx hb dX7_fitsClues_14 rfl (lv_at hl 0 rfl) ?_
        refine r_getr hC hW 22 (Nat.le_of_ble_eq_true rfl) rfl rfl rfl (by decide) inUX7 (hts _ wd_324) rfl dX7_fitsClues_15 ?_
        refine lv_iload_n hx hb dX7_fitsClues_18 rfl (lv_at hl 1 rfl) ?_
        replace h := og h
        obtain ⟨hi, h⟩ := h
        refine r_ald hC hW (Nat.le_of_ble_eq_true rfl) rfl hi dX7_fitsClues_19 ?_
        refine lv_iload_n hx hb dX7_fitsClues_20 rfl (lv_at hl 1 rfl) ?_
        replace h := og h
        obtain ⟨hi, h⟩ := h
        refine r_ast hC hW (Nat.le_of_ble_eq_true rfl) rfl hi dX7_fitsClues_21 (fun σ3 eσ3 H locs hWn => ?_)
        replace h := bn eσ3 h
        replace hW := hWn
        clear hWn eσ3
        replace h := bx h
        obtain ⟨x4, ex4, h⟩ := h
        refine lv_iinc (v := x4) (lv' := [(1, .int x4), (0, .ref (ad 0))]) hx hb dX7_fitsClues_22 hl (k := 1) rfl (by rw [ex4]; rfl) (by decide) rfl (fun ls hln => ?_)
        replace hl := hln
        clear hln ex4
        refine lv_goto (tgt := 2) hx hb dX7_fitsClues_25 (by decide) ?_
        exact ih2 _ _ h _ _ hW _ (lv_sub hl [1, 0] rfl)
  refine lv_iconst (v := 0) hx hb dX7_fitsClues_0 (by decide) ?_
  refine lv_istore_n (lv' := [(1, .int 0), (0, .ref (ad 0))]) hx hb dX7_fitsClues_1 rfl hl (by decide) rfl (fun ls hln => ?_)
  replace hl := hln
  clear hln
  exact L2 _ _ _ h _ _ hW _ (lv_sub hl [1, 0] rfl)
set_option maxHeartbeats 4000000 in
set_option maxRecDepth 100000 in
theorem c_X7_whyNot (l : Launch) (D : va_G) (cy : ClassId × ClassId) (ad : Nat → Nat) (A : Nat → Prop) (p0 : Int32) (σ : Hp) (r : Int32) (h : t_X7_whyNot p0 σ = some r) : Ci l yX7_whyNot us_X7_whyNot ({ frames := 0, cells := 0, slots := 0, locals := 0 } : Room) D cy 27 shM ad A [.ref (ad 0), .int p0] σ r σ := by
  unfold t_X7_whyNot at h
  refine Met.ofW (cc := cX7_whyNot) (maxL := 3) (ret := (some .int)) (by decide) rfl ?_
  intro p e s m args below meth c s₁ B hml hv
  obtain ⟨rfl, hP, hK, hD, hA, hN⟩ := hv
  have hx := B.exec
  have hb := B.bytes
  have hr := B.returns
  have hlocks := B.notSynchronized
  have hts : ∀ w ∈ wsU, w.before _ s = true := fun w h => atoms_spec (ws := us_X7_whyNot) B.pre w (List.mem_cons_of_mem _ h)
  have hown : s.vm.findClass RX7 = some m.cls := findClass_of_methodNamed B.named
  have hC : Cx p m c cX7_whyNot 3 s _ wsU RX7 D cy := ⟨⟨hx, hb, hml, hown, hts⟩, hK, hN⟩
  have hW : Wd D cy 27 shM ad A s.heap σ s.heap [] := ⟨hP, hD, va_S.rf, hA⟩
  have hl := lv_entry ([.ref (ad 0), .int p0]) (n := 3) (Nat.le_of_ble_eq_true rfl)
  rw [lg_entry_eq]
  generalize (lg_sl ([.ref (ad 0), .int p0]) ++ List.replicate (3 - (lg_sl ([.ref (ad 0), .int p0])).length) Slot.unset).toArray = ls at hl ⊢
  have hl : lv_has ls 3 [(0, .ref (ad 0)), (1, .int p0)] := hl
  refine lv_aload_n hx hb dX7_whyNot_0 rfl (lv_at hl 0 rfl) ?_
  refine r_getr hC hW 18 (Nat.le_of_ble_eq_true rfl) rfl rfl rfl (by decide) inUX7 (hts _ wd_305) rfl dX7_whyNot_1 ?_
  refine lv_iload_n hx hb dX7_whyNot_4 rfl (lv_at hl 1 rfl) ?_
  replace h := og h
  obtain ⟨hi, h⟩ := h
  refine r_ald hC hW (Nat.le_of_ble_eq_true rfl) rfl hi dX7_whyNot_5 ?_
  replace h := bx h
  obtain ⟨x1, ex1, h⟩ := h
  refine tope ex1 ?_
  clear ex1
  refine lv_istore_n (lv' := [(2, .int x1), (0, .ref (ad 0)), (1, .int p0)]) hx hb dX7_whyNot_6 rfl hl (by decide) rfl (fun ls hln => ?_)
  replace hl := hln
  clear hln
  refine lv_aload_n hx hb dX7_whyNot_7 rfl (lv_at hl 1 rfl) ?_
  refine r_getr hC hW 17 (Nat.le_of_ble_eq_true rfl) rfl rfl rfl (by decide) inUX7 (hts _ wd_304) rfl dX7_whyNot_8 ?_
  refine lv_iload_n hx hb dX7_whyNot_11 rfl (lv_at hl 2 rfl) ?_
  replace h := og h
  obtain ⟨hi, h⟩ := h
  refine r_ald hC hW (Nat.le_of_ble_eq_true rfl) rfl hi dX7_whyNot_12 ?_
  refine lv_iconst (v := 2) hx hb dX7_whyNot_13 (by decide) ?_
  refine lv_icmp_ge (tgt := 19) hx hb dX7_whyNot_14 (by decide) (fun cq => ?_) (fun cq => ?_)
  · replace h := tp cq h
    refine lv_aload_n hx hb dX7_whyNot_19 rfl (lv_at hl 1 rfl) ?_
    refine r_getr hC hW 5 (Nat.le_of_ble_eq_true rfl) rfl rfl rfl (by decide) inUX7 (hts _ wd_295) rfl dX7_whyNot_20 ?_
    refine lv_iload_n hx hb dX7_whyNot_23 rfl (lv_at hl 0 rfl) ?_
    replace h := og h
    obtain ⟨hi, h⟩ := h
    refine r_ald hC hW (Nat.le_of_ble_eq_true rfl) rfl hi dX7_whyNot_24 ?_
    refine lv_iconst (v := 1) hx hb dX7_whyNot_25 (by decide) ?_
    refine lv_icmp_ne (tgt := 31) hx hb dX7_whyNot_26 (by decide) (fun cq => ?_) (fun cq => ?_)
    · replace h := tn cq h
      refine lv_aload_n hx hb dX7_whyNot_31 rfl (lv_at hl 1 rfl) ?_
      refine r_getr hC hW 17 (Nat.le_of_ble_eq_true rfl) rfl rfl rfl (by decide) inUX7 (hts _ wd_304) rfl dX7_whyNot_32 ?_
      refine lv_iload_n hx hb dX7_whyNot_35 rfl (lv_at hl 2 rfl) ?_
      replace h := og h
      obtain ⟨hi, h⟩ := h
      refine r_ald hC hW (Nat.le_of_ble_eq_true rfl) rfl hi dX7_whyNot_36 ?_
      refine lv_iconst (v := 4) hx hb dX7_whyNot_37 (by decide) ?_
      refine lv_icmp_ne (tgt := 58) hx hb dX7_whyNot_38 (by decide) (fun cq => ?_) (fun cq => ?_)
      · replace h := tn cq h
        refine lv_aload_n hx hb dX7_whyNot_58 rfl (lv_at hl 1 rfl) ?_
        refine r_getr hC hW 5 (Nat.le_of_ble_eq_true rfl) rfl rfl rfl (by decide) inUX7 (hts _ wd_295) rfl dX7_whyNot_59 ?_
        refine lv_iload_n hx hb dX7_whyNot_62 rfl (lv_at hl 0 rfl) ?_
        replace h := og h
        obtain ⟨hi, h⟩ := h
        refine r_ald hC hW (Nat.le_of_ble_eq_true rfl) rfl hi dX7_whyNot_63 ?_
        refine lv_iconst (v := 2) hx hb dX7_whyNot_64 (by decide) ?_
        refine lv_icmp_ne (tgt := 72) hx hb dX7_whyNot_65 (by decide) (fun cq => ?_) (fun cq => ?_)
        · replace h := tn cq h
          refine lv_iconst (v := 0) hx hb dX7_whyNot_72 (by decide) ?_
          exact r_iretP hC hr hlocks h hW dX7_whyNot_73
        · replace h := tp cq h
          refine lv_iconst (v := 2) hx hb dX7_whyNot_68 (by decide) ?_
          refine lv_goto (tgt := 73) hx hb dX7_whyNot_69 (by decide) ?_
          exact r_iretP hC hr hlocks h hW dX7_whyNot_73
      · replace h := tp cq h
        refine lv_aload_n hx hb dX7_whyNot_41 rfl (lv_at hl 1 rfl) ?_
        refine r_getr hC hW 5 (Nat.le_of_ble_eq_true rfl) rfl rfl rfl (by decide) inUX7 (hts _ wd_295) rfl dX7_whyNot_42 ?_
        refine lv_iload_n hx hb dX7_whyNot_45 rfl (lv_at hl 0 rfl) ?_
        replace h := og h
        obtain ⟨hi, h⟩ := h
        refine r_ald hC hW (Nat.le_of_ble_eq_true rfl) rfl hi dX7_whyNot_46 ?_
        refine lv_if_ne (tgt := 54) hx hb dX7_whyNot_47 (by decide) (fun cq => ?_) (fun cq => ?_)
        · replace h := tn cq h
          refine lv_iconst (v := 0) hx hb dX7_whyNot_54 (by decide) ?_
          refine lv_goto (tgt := 73) hx hb dX7_whyNot_55 (by decide) ?_
          exact r_iretP hC hr hlocks h hW dX7_whyNot_73
        · replace h := tp cq h
          refine lv_iconst (v := 3) hx hb dX7_whyNot_50 (by decide) ?_
          refine lv_goto (tgt := 73) hx hb dX7_whyNot_51 (by decide) ?_
          exact r_iretP hC hr hlocks h hW dX7_whyNot_73
    · replace h := tp cq h
      refine lv_iconst (v := 1) hx hb dX7_whyNot_29 (by decide) ?_
      exact r_iretP hC hr hlocks h hW dX7_whyNot_30
  · replace h := tn cq h
    refine lv_iconst (v := 0) hx hb dX7_whyNot_17 (by decide) ?_
    exact r_iretP hC hr hlocks h hW dX7_whyNot_18
