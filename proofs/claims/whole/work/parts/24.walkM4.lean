set_option maxHeartbeats 4000000 in
set_option maxRecDepth 100000 in
theorem c_X7_faultOfOrder (l : Launch) (D : va_G) (cy : ClassId × ClassId) (ad : Nat → Nat) (A : Nat → Prop) (N : Nat) (σ : Hp) (r : Int32) (h : t_X7_faultOfOrder N σ = some r) : Ci l yX7_faultOfOrder us_X7_faultOfOrder ({ frames := 2, cells := 0, slots := 0, locals := 46 } : Room) D cy 27 shM ad A [.ref (ad 0)] σ r σ := by
  unfold t_X7_faultOfOrder at h
  refine Met.ofW (cc := cX7_faultOfOrder) (maxL := 4) (ret := (some .int)) (by decide) rfl ?_
  intro p e s m args below meth c s₁ B hml hv
  obtain ⟨rfl, hP, hK, hD, hA, hN⟩ := hv
  have hx := B.exec
  have hb := B.bytes
  have hr := B.returns
  have hlocks := B.notSynchronized
  have hts : ∀ w ∈ wsU, w.before _ s = true := fun w h => atoms_spec (ws := us_X7_faultOfOrder) B.pre w (List.mem_cons_of_mem _ h)
  have hown : s.vm.findClass RX7 = some m.cls := findClass_of_methodNamed B.named
  have hC : Cx p m c cX7_faultOfOrder 4 s _ wsU RX7 D cy := ⟨⟨hx, hb, hml, hown, hts⟩, hK, hN⟩
  have hW : Wd D cy 27 shM ad A s.heap σ s.heap [] := ⟨hP, hD, va_S.rf, hA⟩
  have hl := lv_entry ([.ref (ad 0)]) (n := 4) (Nat.le_of_ble_eq_true rfl)
  rw [lg_entry_eq]
  generalize (lg_sl ([.ref (ad 0)]) ++ List.replicate (4 - (lg_sl ([.ref (ad 0)])).length) Slot.unset).toArray = ls at hl ⊢
  have hl : lv_has ls 4 [(0, .ref (ad 0))] := hl
  have L4 : ∀ (f : Nat) (v1 : Int32) (v2 : Int32), t_X7_faultOfOrder_4 N f v1 v2 σ = some r → ∀ (H : Heap) (locs : List Loc), Wd D cy 27 shM ad A s.heap σ H locs → ∀ ls : Array Slot, lv_has ls 4 [(0, .ref (ad 0)), (1, .int v1), (2, .int v2)] → Gi p l e us_X7_faultOfOrder ({ frames := 2, cells := 0, slots := 0, locals := 46 } : Room) s m [.ref (ad 0)] below meth c D cy 27 shM ad A r σ H locs (F0 m 4 ls []) := by
    intro f
    unfold t_X7_faultOfOrder_4
    refine loopG_ind (fun (T : Int32 → Int32 → Hp → Option Int32) => ∀ (v1 : Int32) (v2 : Int32), T v1 v2 σ = some r → ∀ (H : Heap) (locs : List Loc), Wd D cy 27 shM ad A s.heap σ H locs → ∀ ls : Array Slot, lv_has ls 4 [(0, .ref (ad 0)), (1, .int v1), (2, .int v2)] → Gi p l e us_X7_faultOfOrder ({ frames := 2, cells := 0, slots := 0, locals := 46 } : Room) s m [.ref (ad 0)] below meth c D cy 27 shM ad A r σ H locs (F0 m 4 ls [])) ?_ ?_ f
    · intro v1 v2 h; exact absurd h (by simp)
    · intro k4 ih4
      intro v1 v2 h H locs hW ls hl
      refine lv_iload_n hx hb dX7_faultOfOrder_4 rfl (lv_at hl 2 rfl) ?_
      refine lv_aload_n hx hb dX7_faultOfOrder_5 rfl (lv_at hl 0 rfl) ?_
      refine r_geti hC hW 16 (Nat.le_of_ble_eq_true rfl) rfl rfl rfl (by decide) inUX7 (hts _ wd_310) rfl dX7_faultOfOrder_6 ?_
      refine lv_icmp_ge (tgt := 53) hx hb dX7_faultOfOrder_9 (by decide) (fun cq => ?_) (fun cq => ?_)
      · replace h := tp cq h
        refine lv_aload_n hx hb dX7_faultOfOrder_53 rfl (lv_at hl 0 rfl) ?_
        refine r_geti hC hW 16 (Nat.le_of_ble_eq_true rfl) rfl rfl rfl (by decide) inUX7 (hts _ wd_310) rfl dX7_faultOfOrder_54 ?_
        refine lv_aload_n hx hb dX7_faultOfOrder_57 rfl (lv_at hl 0 rfl) ?_
        refine r_geti hC hW 0 (Nat.le_of_ble_eq_true rfl) rfl rfl rfl (by decide) inUX7 (hts _ wd_294) rfl dX7_faultOfOrder_58 ?_
        refine lv_icmp_ge (tgt := 71) hx hb dX7_faultOfOrder_61 (by decide) (fun cq => ?_) (fun cq => ?_)
        · replace h := tp cq h
          refine lv_bipush (v := (-6)) hx hb dX7_faultOfOrder_71 (by decide) ?_
          exact r_iretP hC hr hlocks h hW dX7_faultOfOrder_73
        · replace h := tn cq h
          refine lv_aload_n hx hb dX7_faultOfOrder_64 rfl (lv_at hl 0 rfl) ?_
          refine r_geti hC hW 16 (Nat.le_of_ble_eq_true rfl) rfl rfl rfl (by decide) inUX7 (hts _ wd_310) rfl dX7_faultOfOrder_65 ?_
          refine lv_goto (tgt := 73) hx hb dX7_faultOfOrder_68 (by decide) ?_
          exact r_iretP hC hr hlocks h hW dX7_faultOfOrder_73
      · replace h := tn cq h
        refine lv_aload_n hx hb dX7_faultOfOrder_12 rfl (lv_at hl 0 rfl) ?_
        refine r_getr hC hW 15 (Nat.le_of_ble_eq_true rfl) rfl rfl rfl (by decide) inUX7 (hts _ wd_311) rfl dX7_faultOfOrder_13 ?_
        refine lv_iload_n hx hb dX7_faultOfOrder_16 rfl (lv_at hl 2 rfl) ?_
        replace h := og h
        obtain ⟨hi, h⟩ := h
        refine r_ald hC hW (Nat.le_of_ble_eq_true rfl) rfl hi dX7_faultOfOrder_17 ?_
        refine lv_bipush (v := 48) hx hb dX7_faultOfOrder_18 (by decide) ?_
        refine lv_isub hx hb dX7_faultOfOrder_20 ?_
        replace h := bx h
        obtain ⟨x1, ex1, h⟩ := h
        refine tope ex1 ?_
        clear ex1
        refine lv_istore_n (lv' := [(3, .int x1), (0, .ref (ad 0)), (1, .int v1), (2, .int v2)]) hx hb dX7_faultOfOrder_21 rfl hl (by decide) rfl (fun ls hln => ?_)
        replace hl := hln
        clear hln
        refine lv_aload_n hx hb dX7_faultOfOrder_22 rfl (lv_at hl 1 rfl) ?_
        refine lv_iload_n hx hb dX7_faultOfOrder_23 rfl (lv_at hl 0 rfl) ?_
        replace h := bd h
        obtain ⟨r2, hc, h⟩ := h
        refine r_calli hW (va_runV (As := [.int x1]) (rest := []) hC.1 (c_X7_isEgg l D cy ad A _ _ _ hc) (cwV 1 hts (gdV wd_307 wd_308 wd_309 wd_300 wd_306) rfl rfl rfl (by decide +kernel) ⟨Nat.le_of_ble_eq_true rfl, Nat.le_of_ble_eq_true rfl⟩) (r_preV hC hW (Nat.le_of_ble_eq_true rfl) rfl rfl) rfl rfl hl.1 rfl (lv_room (Nat.le_of_ble_eq_true rfl)) dX7_faultOfOrder_24 ⟨Nat.zero_le _, Nat.zero_le _⟩) (fun H locs hWn => ?_)
        replace hW := hWn
        clear hWn hc
        refine lv_if_eq (tgt := 39) hx hb dX7_faultOfOrder_27 (by decide) (fun cq => ?_) (fun cq => ?_)
        · replace h := tp cq h
          refine lv_iload_n hx hb dX7_faultOfOrder_39 rfl (lv_at hl 3 rfl) ?_
          exact r_iretP hC hr hlocks h hW dX7_faultOfOrder_40
        · replace h := tn cq h
          refine lv_iload_n hx hb dX7_faultOfOrder_30 rfl (lv_at hl 2 rfl) ?_
          refine lv_iload_n hx hb dX7_faultOfOrder_31 rfl (lv_at hl 0 rfl) ?_
          refine lv_ishr hx hb dX7_faultOfOrder_32 ?_
          refine lv_iconst (v := 1) hx hb dX7_faultOfOrder_33 (by decide) ?_
          refine lv_iand hx hb dX7_faultOfOrder_34 ?_
          refine lv_iconst (v := 1) hx hb dX7_faultOfOrder_35 (by decide) ?_
          refine lv_icmp_ne (tgt := 41) hx hb dX7_faultOfOrder_36 (by decide) (fun cq => ?_) (fun cq => ?_)
          · replace h := tn cq h
            refine lv_iload_n hx hb dX7_faultOfOrder_41 rfl (lv_at hl 2 rfl) ?_
            refine lv_iconst (v := 1) hx hb dX7_faultOfOrder_42 (by decide) ?_
            refine lv_iload_n hx hb dX7_faultOfOrder_43 rfl (lv_at hl 0 rfl) ?_
            refine lv_ishl hx hb dX7_faultOfOrder_44 ?_
            refine lv_ior hx hb dX7_faultOfOrder_45 ?_
            replace h := bx h
            obtain ⟨x3, ex3, h⟩ := h
            refine tope ex3 ?_
            clear ex3
            refine lv_istore_n (lv' := [(1, .int x3), (3, .int x1), (0, .ref (ad 0)), (2, .int v2)]) hx hb dX7_faultOfOrder_46 rfl hl (by decide) rfl (fun ls hln => ?_)
            replace hl := hln
            clear hln
            replace h := bx h
            obtain ⟨x4, ex4, h⟩ := h
            refine lv_iinc (v := x4) (lv' := [(2, .int x4), (1, .int x3), (3, .int x1), (0, .ref (ad 0))]) hx hb dX7_faultOfOrder_47 hl (k := 3) rfl (by rw [ex4]; rfl) (by decide) rfl (fun ls hln => ?_)
            replace hl := hln
            clear hln ex4
            refine lv_goto (tgt := 4) hx hb dX7_faultOfOrder_50 (by decide) ?_
            exact ih4 _ _ h _ _ hW _ (lv_sub hl [3, 1, 0] rfl)
          · replace h := tp cq h
            refine lv_iload_n hx hb dX7_faultOfOrder_39 rfl (lv_at hl 3 rfl) ?_
            exact r_iretP hC hr hlocks h hW dX7_faultOfOrder_40
  refine lv_iconst (v := 0) hx hb dX7_faultOfOrder_0 (by decide) ?_
  refine lv_istore_n (lv' := [(1, .int 0), (0, .ref (ad 0))]) hx hb dX7_faultOfOrder_1 rfl hl (by decide) rfl (fun ls hln => ?_)
  replace hl := hln
  clear hln
  refine lv_iconst (v := 0) hx hb dX7_faultOfOrder_2 (by decide) ?_
  refine lv_istore_n (lv' := [(2, .int 0), (1, .int 0), (0, .ref (ad 0))]) hx hb dX7_faultOfOrder_3 rfl hl (by decide) rfl (fun ls hln => ?_)
  replace hl := hln
  clear hln
  exact L4 _ _ _ h _ _ hW _ (lv_sub hl [2, 1, 0] rfl)
set_option maxHeartbeats 4000000 in
set_option maxRecDepth 100000 in
theorem c_X7_fault (l : Launch) (D : va_G) (cy : ClassId × ClassId) (ad : Nat → Nat) (A : Nat → Prop) (N : Nat) (p0 : Int32) (σ : Hp) (r : Int32) (σ' : Hp) (h : t_X7_fault N p0 σ = some (r, σ')) : Ci l yX7_fault us_X7_fault ({ frames := 3, cells := 0, slots := 0, locals := 72 } : Room) D cy 27 shM ad A [.ref (ad 0), .int p0] σ r σ' := by
  unfold t_X7_fault at h
  refine Met.ofW (cc := cX7_fault) (maxL := 2) (ret := (some .int)) (by decide) rfl ?_
  intro p e s m args below meth c s₁ B hml hv
  obtain ⟨rfl, hP, hK, hD, hA, hN⟩ := hv
  have hx := B.exec
  have hb := B.bytes
  have hr := B.returns
  have hlocks := B.notSynchronized
  have hts : ∀ w ∈ wsU, w.before _ s = true := fun w h => atoms_spec (ws := us_X7_fault) B.pre w (List.mem_cons_of_mem _ h)
  have hown : s.vm.findClass RX7 = some m.cls := findClass_of_methodNamed B.named
  have hC : Cx p m c cX7_fault 2 s _ wsU RX7 D cy := ⟨⟨hx, hb, hml, hown, hts⟩, hK, hN⟩
  have hW : Wd D cy 27 shM ad A s.heap σ s.heap [] := ⟨hP, hD, va_S.rf, hA⟩
  have hl := lv_entry ([.ref (ad 0), .int p0]) (n := 2) (Nat.le_of_ble_eq_true rfl)
  rw [lg_entry_eq]
  generalize (lg_sl ([.ref (ad 0), .int p0]) ++ List.replicate (2 - (lg_sl ([.ref (ad 0), .int p0])).length) Slot.unset).toArray = ls at hl ⊢
  have hl : lv_has ls 2 [(0, .ref (ad 0)), (1, .int p0)] := hl
  refine lv_iload_n hx hb dX7_fault_0 rfl (lv_at hl 1 rfl) ?_
  refine lv_if_ne (tgt := 11) hx hb dX7_fault_1 (by decide) (fun cq => ?_) (fun cq => ?_)
  · replace h := tn cq h
    refine lv_iload_n hx hb dX7_fault_11 rfl (lv_at hl 1 rfl) ?_
    refine lv_iconst (v := 1) hx hb dX7_fault_12 (by decide) ?_
    refine lv_icmp_ne (tgt := 23) hx hb dX7_fault_13 (by decide) (fun cq => ?_) (fun cq => ?_)
    · replace h := tn cq h
      refine lv_bipush (v := (-2)) hx hb dX7_fault_23 (by decide) ?_
      exact r_iretW hC hr hlocks h hW dX7_fault_25
    · replace h := tp cq h
      refine lv_aload_n hx hb dX7_fault_16 rfl (lv_at hl 0 rfl) ?_
      replace h := ob h
      obtain ⟨r1, σ2, hc, h⟩ := h
      refine r_calli hW (va_runV (As := []) (rest := []) hC.1 (c_X7_faultOfWeek l D cy ad A N _ _ _ hc) (cwV 0 hts (gdV wd_387 wd_388 wd_389 wd_300 wd_386) rfl rfl rfl (by decide +kernel) ⟨Nat.le_of_ble_eq_true rfl, Nat.le_of_ble_eq_true rfl⟩) (r_preV hC hW (Nat.le_of_ble_eq_true rfl) rfl rfl) rfl rfl hl.1 rfl (lv_room (Nat.le_of_ble_eq_true rfl)) dX7_fault_17 ⟨Nat.zero_le _, Nat.zero_le _⟩) (fun H locs hWn => ?_)
      replace hW := hWn
      clear hWn hc
      refine lv_goto (tgt := 25) hx hb dX7_fault_20 (by decide) ?_
      exact r_iretW hC hr hlocks h hW dX7_fault_25
  · replace h := tp cq h
    refine lv_aload_n hx hb dX7_fault_4 rfl (lv_at hl 0 rfl) ?_
    replace h := bd h
    obtain ⟨r3, hc, h⟩ := h
    refine r_calli hW (va_runV (As := []) (rest := []) hC.1 (c_X7_faultOfOrder l D cy ad A N _ _ hc) (cwV 0 hts (gdV wd_430 wd_431 wd_432 wd_300 wd_429) rfl rfl rfl (by decide +kernel) ⟨Nat.le_of_ble_eq_true rfl, Nat.le_of_ble_eq_true rfl⟩) (r_preV hC hW (Nat.le_of_ble_eq_true rfl) rfl rfl) rfl rfl hl.1 rfl (lv_room (Nat.le_of_ble_eq_true rfl)) dX7_fault_5 ⟨Nat.zero_le _, Nat.zero_le _⟩) (fun H locs hWn => ?_)
    replace hW := hWn
    clear hWn hc
    refine lv_goto (tgt := 25) hx hb dX7_fault_8 (by decide) ?_
    exact r_iretW hC hr hlocks h hW dX7_fault_25
set_option maxHeartbeats 4000000 in
set_option maxRecDepth 100000 in
theorem c_X7_findWorth (l : Launch) (D : va_G) (cy : ClassId × ClassId) (ad : Nat → Nat) (A : Nat → Prop) (N : Nat) (p0 : Int32) (σ : Hp) (r : Int32) (σ' : Hp) (h : t_X7_findWorth N p0 σ = some (r, σ')) : Ci l yX7_findWorth us_X7_findWorth ({ frames := 0, cells := 0, slots := 0, locals := 0 } : Room) D cy 27 shM ad A [.ref (ad 0), .int p0] σ r σ' := by
  unfold t_X7_findWorth at h
  refine Met.ofW (cc := cX7_findWorth) (maxL := 8) (ret := (some .int)) (by decide) rfl ?_
  intro p e s m args below meth c s₁ B hml hv
  obtain ⟨rfl, hP, hK, hD, hA, hN⟩ := hv
  have hx := B.exec
  have hb := B.bytes
  have hr := B.returns
  have hlocks := B.notSynchronized
  have hts : ∀ w ∈ wsU, w.before _ s = true := fun w h => atoms_spec (ws := us_X7_findWorth) B.pre w (List.mem_cons_of_mem _ h)
  have hown : s.vm.findClass RX7 = some m.cls := findClass_of_methodNamed B.named
  have hC : Cx p m c cX7_findWorth 8 s _ wsU RX7 D cy := ⟨⟨hx, hb, hml, hown, hts⟩, hK, hN⟩
  have hW : Wd D cy 27 shM ad A s.heap σ s.heap [] := ⟨hP, hD, va_S.rf, hA⟩
  have hl := lv_entry ([.ref (ad 0), .int p0]) (n := 8) (Nat.le_of_ble_eq_true rfl)
  rw [lg_entry_eq]
  generalize (lg_sl ([.ref (ad 0), .int p0]) ++ List.replicate (8 - (lg_sl ([.ref (ad 0), .int p0])).length) Slot.unset).toArray = ls at hl ⊢
  have hl : lv_has ls 8 [(0, .ref (ad 0)), (1, .int p0)] := hl
  have L28 : ∀ (f : Nat) (v1 : Int32) (v2 : Int32) (v3 : Int32) (v4 : Int32) (σ : Hp), t_X7_findWorth_28 N f v1 v2 v3 v4 σ = some (r, σ') → ∀ (H : Heap) (locs : List Loc), Wd D cy 27 shM ad A s.heap σ H locs → ∀ ls : Array Slot, lv_has ls 8 [(0, .ref (ad 0)), (1, .int v1), (2, .int v2), (3, .int v3), (4, .int v4)] → Gi p l e us_X7_findWorth ({ frames := 0, cells := 0, slots := 0, locals := 0 } : Room) s m [.ref (ad 0), .int p0] below meth c D cy 27 shM ad A r σ' H locs (F0 m 28 ls []) := by
    intro f
    unfold t_X7_findWorth_28
    refine loopG_ind (fun (T : Int32 → Int32 → Int32 → Int32 → Hp → Option (Int32 × Hp)) => ∀ (v1 : Int32) (v2 : Int32) (v3 : Int32) (v4 : Int32) (σ : Hp), T v1 v2 v3 v4 σ = some (r, σ') → ∀ (H : Heap) (locs : List Loc), Wd D cy 27 shM ad A s.heap σ H locs → ∀ ls : Array Slot, lv_has ls 8 [(0, .ref (ad 0)), (1, .int v1), (2, .int v2), (3, .int v3), (4, .int v4)] → Gi p l e us_X7_findWorth ({ frames := 0, cells := 0, slots := 0, locals := 0 } : Room) s m [.ref (ad 0), .int p0] below meth c D cy 27 shM ad A r σ' H locs (F0 m 28 ls [])) ?_ ?_ f
    · intro v1 v2 v3 v4 σ h; exact absurd h (by simp)
    · intro k28 ih28
      have J182 : ∀ (v1 : Int32) (v2 : Int32) (v4 : Int32) (s0 : Int32) (σ : Hp), t_X7_findWorth_182 N k28 v1 v2 v4 s0 σ = some (r, σ') → ∀ (H : Heap) (locs : List Loc), Wd D cy 27 shM ad A s.heap σ H locs → ∀ ls : Array Slot, lv_has ls 8 [(0, .ref (ad 0)), (1, .int v1), (2, .int v2), (4, .int v4)] → Gi p l e us_X7_findWorth ({ frames := 0, cells := 0, slots := 0, locals := 0 } : Room) s m [.ref (ad 0), .int p0] below meth c D cy 27 shM ad A r σ' H locs (F0 m 182 ls [.int s0]) := by
        intro v1 v2 v4 s0 σ h H locs hW ls hl
        unfold t_X7_findWorth_182 at h
        refine lv_istore_n (lv' := [(3, .int s0), (0, .ref (ad 0)), (1, .int v1), (2, .int v2), (4, .int v4)]) hx hb dX7_findWorth_182 rfl hl (by decide) rfl (fun ls hln => ?_)
        replace hl := hln
        clear hln
        replace h := bx h
        obtain ⟨x1, ex1, h⟩ := h
        refine lv_iinc (v := x1) (lv' := [(4, .int x1), (3, .int s0), (0, .ref (ad 0)), (1, .int v1), (2, .int v2)]) hx hb dX7_findWorth_183 hl (k := 4) rfl (by rw [ex1]; rfl) (by decide) rfl (fun ls hln => ?_)
        replace hl := hln
        clear hln ex1
        refine lv_goto (tgt := 28) hx hb dX7_findWorth_186 (by decide) ?_
        exact ih28 _ _ _ _ _ h _ _ hW _ (lv_sub hl [2, 3, 4, 1, 0] rfl)
      have J177 : ∀ (v1 : Int32) (v2 : Int32) (v4 : Int32) (σ : Hp), t_X7_findWorth_177 N k28 v1 v2 v4 σ = some (r, σ') → ∀ (H : Heap) (locs : List Loc), Wd D cy 27 shM ad A s.heap σ H locs → ∀ ls : Array Slot, lv_has ls 8 [(0, .ref (ad 0)), (1, .int v1), (2, .int v2), (4, .int v4)] → Gi p l e us_X7_findWorth ({ frames := 0, cells := 0, slots := 0, locals := 0 } : Room) s m [.ref (ad 0), .int p0] below meth c D cy 27 shM ad A r σ' H locs (F0 m 177 ls []) := by
        intro v1 v2 v4 σ h H locs hW ls hl
        unfold t_X7_findWorth_177 at h
        refine lv_iconst (v := 1) hx hb dX7_findWorth_177 (by decide) ?_
        refine lv_goto (tgt := 182) hx hb dX7_findWorth_178 (by decide) ?_
        exact J182 _ _ _ _ _ h _ _ hW _ (lv_sub hl [0, 1, 2, 3] rfl)
      have J159 : ∀ (v1 : Int32) (v4 : Int32) (v5 : Int32) (v7 : Int32) (s0 : Int32) (s1 : Int32) (σ : Hp), t_X7_findWorth_159 N k28 v1 v4 v5 v7 s0 s1 σ = some (r, σ') → ∀ (H : Heap) (locs : List Loc), Wd D cy 27 shM ad A s.heap σ H locs → ∀ ls : Array Slot, lv_has ls 8 [(0, .ref (ad 0)), (1, .int v1), (4, .int v4), (5, .int v5), (7, .int v7)] → Gi p l e us_X7_findWorth ({ frames := 0, cells := 0, slots := 0, locals := 0 } : Room) s m [.ref (ad 0), .int p0] below meth c D cy 27 shM ad A r σ' H locs (F0 m 159 ls [.int s1, .int s0]) := by
        intro v1 v4 v5 v7 s0 s1 σ h H locs hW ls hl
        unfold t_X7_findWorth_159 at h
        refine lv_iadd hx hb dX7_findWorth_159 ?_
        replace h := bx h
        obtain ⟨x2, ex2, h⟩ := h
        refine tope ex2 ?_
        clear ex2
        refine lv_istore_n (lv' := [(2, .int x2), (0, .ref (ad 0)), (1, .int v1), (4, .int v4), (5, .int v5), (7, .int v7)]) hx hb dX7_findWorth_160 rfl hl (by decide) rfl (fun ls hln => ?_)
        replace hl := hln
        clear hln
        refine lv_iload hx hb dX7_findWorth_161 (lv_at hl 5 rfl) ?_
        refine lv_if_ne (tgt := 177) hx hb dX7_findWorth_163 (by decide) (fun cq => ?_) (fun cq => ?_)
        · replace h := tn cq h
          exact J177 _ _ _ _ h _ _ hW _ (lv_sub hl [1, 2, 0, 3] rfl)
        · replace h := tp cq h
          refine lv_aload_n hx hb dX7_findWorth_166 rfl (lv_at hl 1 rfl) ?_
          refine r_getr hC hW 5 (Nat.le_of_ble_eq_true rfl) rfl rfl rfl (by decide) inUX7 (hts _ wd_295) rfl dX7_findWorth_167 ?_
          refine lv_iload hx hb dX7_findWorth_170 (lv_at hl 4 rfl) ?_
          replace h := og h
          obtain ⟨hi, h⟩ := h
          refine r_ald hC hW (Nat.le_of_ble_eq_true rfl) rfl hi dX7_findWorth_172 ?_
          refine lv_iconst (v := 1) hx hb dX7_findWorth_173 (by decide) ?_
          refine lv_icmp_ne (tgt := 181) hx hb dX7_findWorth_174 (by decide) (fun cq => ?_) (fun cq => ?_)
          · replace h := tn cq h
            refine lv_iconst (v := 0) hx hb dX7_findWorth_181 (by decide) ?_
            exact J182 _ _ _ _ _ h _ _ hW _ (lv_sub hl [1, 2, 0, 3] rfl)
          · replace h := tp cq h
            exact J177 _ _ _ _ h _ _ hW _ (lv_sub hl [1, 2, 0, 3] rfl)
      have J140 : ∀ (v1 : Int32) (v2 : Int32) (v4 : Int32) (v5 : Int32) (v7 : Int32) (s1 : Int32) (s2 : Int32) (s3 : Int32) (σ : Hp), t_X7_findWorth_140 N k28 v1 v2 v4 v5 v7 s1 s2 s3 σ = some (r, σ') → ∀ (H : Heap) (locs : List Loc), Wd D cy 27 shM ad A s.heap σ H locs → ∀ ls : Array Slot, lv_has ls 8 [(0, .ref (ad 0)), (1, .int v1), (2, .int v2), (4, .int v4), (5, .int v5), (7, .int v7)] → Gi p l e us_X7_findWorth ({ frames := 0, cells := 0, slots := 0, locals := 0 } : Room) s m [.ref (ad 0), .int p0] below meth c D cy 27 shM ad A r σ' H locs (F0 m 140 ls [.int s3, .int s2, .int s1, .ref (ad 24)]) := by
        intro v1 v2 v4 v5 v7 s1 s2 s3 σ h H locs hW ls hl
        unfold t_X7_findWorth_140 at h
        refine lv_iadd hx hb dX7_findWorth_140 ?_
        replace h := og h
        obtain ⟨hi, h⟩ := h
        refine r_ast hC hW (Nat.le_of_ble_eq_true rfl) rfl hi dX7_findWorth_141 (fun σ3 eσ3 H locs hWn => ?_)
        replace h := bn eσ3 h
        replace hW := hWn
        clear hWn eσ3
        refine lv_iload_n hx hb dX7_findWorth_142 rfl (lv_at hl 2 rfl) ?_
        refine lv_iload hx hb dX7_findWorth_143 (lv_at hl 5 rfl) ?_
        refine lv_if_eq (tgt := 158) hx hb dX7_findWorth_145 (by decide) (fun cq => ?_) (fun cq => ?_)
        · replace h := tp cq h
          refine lv_iconst (v := 0) hx hb dX7_findWorth_158 (by decide) ?_
          exact J159 _ _ _ _ _ _ _ h _ _ hW _ (lv_sub hl [0, 1, 3, 4, 5] rfl)
        · replace h := tn cq h
          refine lv_aload_n hx hb dX7_findWorth_148 rfl (lv_at hl 0 rfl) ?_
          refine r_getr hC hW 3 (Nat.le_of_ble_eq_true rfl) rfl rfl rfl (by decide) inUX7 (hts _ wd_398) rfl dX7_findWorth_149 ?_
          refine lv_iload hx hb dX7_findWorth_152 (lv_at hl 4 rfl) ?_
          replace h := og h
          obtain ⟨hi, h⟩ := h
          refine r_ald hC hW (Nat.le_of_ble_eq_true rfl) rfl hi dX7_findWorth_154 ?_
          refine lv_goto (tgt := 159) hx hb dX7_findWorth_155 (by decide) ?_
          exact J159 _ _ _ _ _ _ _ h _ _ hW _ (lv_sub hl [0, 1, 3, 4, 5] rfl)
      have J109 : ∀ (v1 : Int32) (v2 : Int32) (v4 : Int32) (v5 : Int32) (s0 : Int32) (σ : Hp), t_X7_findWorth_109 N k28 v1 v2 v4 v5 s0 σ = some (r, σ') → ∀ (H : Heap) (locs : List Loc), Wd D cy 27 shM ad A s.heap σ H locs → ∀ ls : Array Slot, lv_has ls 8 [(0, .ref (ad 0)), (1, .int v1), (2, .int v2), (4, .int v4), (5, .int v5)] → Gi p l e us_X7_findWorth ({ frames := 0, cells := 0, slots := 0, locals := 0 } : Room) s m [.ref (ad 0), .int p0] below meth c D cy 27 shM ad A r σ' H locs (F0 m 109 ls [.int s0]) := by
        intro v1 v2 v4 v5 s0 σ h H locs hW ls hl
        unfold t_X7_findWorth_109 at h
        refine lv_istore (lv' := [(7, .int s0), (0, .ref (ad 0)), (1, .int v1), (2, .int v2), (4, .int v4), (5, .int v5)]) hx hb dX7_findWorth_109 hl (by decide) rfl (fun ls hln => ?_)
        replace hl := hln
        clear hln
        refine lv_aload_n hx hb dX7_findWorth_111 rfl (lv_at hl 1 rfl) ?_
        refine r_getr hC hW 37 (Nat.le_of_ble_eq_true rfl) rfl rfl rfl (by decide) inUX7 (hts _ wd_433) rfl dX7_findWorth_112 ?_
        refine lv_aload_n hx hb dX7_findWorth_115 rfl (lv_at hl 1 rfl) ?_
        refine r_getr hC hW 4 (Nat.le_of_ble_eq_true rfl) rfl rfl rfl (by decide) inUX7 (hts _ wd_318) rfl dX7_findWorth_116 ?_
        refine lv_iload hx hb dX7_findWorth_119 (lv_at hl 5 rfl) ?_
        replace h := og h
        obtain ⟨hi, h⟩ := h
        refine r_ald hC hW (Nat.le_of_ble_eq_true rfl) rfl hi dX7_findWorth_121 ?_
        refine lv_dup2_11 hx hb dX7_findWorth_122 rfl rfl ?_
        replace h := og h
        obtain ⟨hi, h⟩ := h
        refine r_ald hC hW (Nat.le_of_ble_eq_true rfl) rfl hi dX7_findWorth_123 ?_
        refine lv_iload hx hb dX7_findWorth_124 (lv_at hl 0 rfl) ?_
        refine lv_if_eq (tgt := 139) hx hb dX7_findWorth_126 (by decide) (fun cq => ?_) (fun cq => ?_)
        · replace h := tp cq h
          refine lv_iconst (v := 0) hx hb dX7_findWorth_139 (by decide) ?_
          exact J140 _ _ _ _ _ _ _ _ _ h _ _ hW _ (lv_sub hl [1, 2, 3, 4, 5, 0] rfl)
        · replace h := tn cq h
          refine lv_aload_n hx hb dX7_findWorth_129 rfl (lv_at hl 1 rfl) ?_
          refine r_getr hC hW 3 (Nat.le_of_ble_eq_true rfl) rfl rfl rfl (by decide) inUX7 (hts _ wd_398) rfl dX7_findWorth_130 ?_
          refine lv_iload hx hb dX7_findWorth_133 (lv_at hl 5 rfl) ?_
          replace h := og h
          obtain ⟨hi, h⟩ := h
          refine r_ald hC hW (Nat.le_of_ble_eq_true rfl) rfl hi dX7_findWorth_135 ?_
          refine lv_goto (tgt := 140) hx hb dX7_findWorth_136 (by decide) ?_
          exact J140 _ _ _ _ _ _ _ _ _ h _ _ hW _ (lv_sub hl [1, 2, 3, 4, 5, 0] rfl)
      have J108 : ∀ (v1 : Int32) (v2 : Int32) (v4 : Int32) (v5 : Int32) (σ : Hp), t_X7_findWorth_108 N k28 v1 v2 v4 v5 σ = some (r, σ') → ∀ (H : Heap) (locs : List Loc), Wd D cy 27 shM ad A s.heap σ H locs → ∀ ls : Array Slot, lv_has ls 8 [(0, .ref (ad 0)), (1, .int v1), (2, .int v2), (4, .int v4), (5, .int v5)] → Gi p l e us_X7_findWorth ({ frames := 0, cells := 0, slots := 0, locals := 0 } : Room) s m [.ref (ad 0), .int p0] below meth c D cy 27 shM ad A r σ' H locs (F0 m 108 ls []) := by
        intro v1 v2 v4 v5 σ h H locs hW ls hl
        unfold t_X7_findWorth_108 at h
        refine lv_iconst (v := 0) hx hb dX7_findWorth_108 (by decide) ?_
        exact J109 _ _ _ _ _ _ h _ _ hW _ (lv_sub hl [0, 1, 2, 3, 4] rfl)
      have J87 : ∀ (v1 : Int32) (v2 : Int32) (v4 : Int32) (v5 : Int32) (s0 : Int32) (σ : Hp), t_X7_findWorth_87 N k28 v1 v2 v4 v5 s0 σ = some (r, σ') → ∀ (H : Heap) (locs : List Loc), Wd D cy 27 shM ad A s.heap σ H locs → ∀ ls : Array Slot, lv_has ls 8 [(0, .ref (ad 0)), (1, .int v1), (2, .int v2), (4, .int v4), (5, .int v5)] → Gi p l e us_X7_findWorth ({ frames := 0, cells := 0, slots := 0, locals := 0 } : Room) s m [.ref (ad 0), .int p0] below meth c D cy 27 shM ad A r σ' H locs (F0 m 87 ls [.int s0]) := by
        intro v1 v2 v4 v5 s0 σ h H locs hW ls hl
        unfold t_X7_findWorth_87 at h
        refine lv_istore (lv' := [(6, .int s0), (0, .ref (ad 0)), (1, .int v1), (2, .int v2), (4, .int v4), (5, .int v5)]) hx hb dX7_findWorth_87 hl (by decide) rfl (fun ls hln => ?_)
        replace hl := hln
        clear hln
        refine lv_aload_n hx hb dX7_findWorth_89 rfl (lv_at hl 1 rfl) ?_
        refine r_getr hC hW 5 (Nat.le_of_ble_eq_true rfl) rfl rfl rfl (by decide) inUX7 (hts _ wd_295) rfl dX7_findWorth_90 ?_
        refine lv_iload hx hb dX7_findWorth_93 (lv_at hl 5 rfl) ?_
        replace h := og h
        obtain ⟨hi, h⟩ := h
        refine r_ald hC hW (Nat.le_of_ble_eq_true rfl) rfl hi dX7_findWorth_95 ?_
        refine lv_if_ne (tgt := 108) hx hb dX7_findWorth_96 (by decide) (fun cq => ?_) (fun cq => ?_)
        · replace h := tn cq h
          exact J108 _ _ _ _ _ h _ _ hW _ (lv_sub hl [1, 2, 3, 4, 5] rfl)
        · replace h := tp cq h
          refine lv_iload hx hb dX7_findWorth_99 (lv_at hl 0 rfl) ?_
          refine lv_if_eq (tgt := 108) hx hb dX7_findWorth_101 (by decide) (fun cq => ?_) (fun cq => ?_)
          · replace h := tp cq h
            exact J108 _ _ _ _ _ h _ _ hW _ (lv_sub hl [1, 2, 3, 4, 5] rfl)
          · replace h := tn cq h
            refine lv_iconst (v := 1) hx hb dX7_findWorth_104 (by decide) ?_
            refine lv_goto (tgt := 109) hx hb dX7_findWorth_105 (by decide) ?_
            exact J109 _ _ _ _ _ _ h _ _ hW _ (lv_sub hl [1, 2, 3, 4, 5] rfl)
      have J82 : ∀ (v1 : Int32) (v2 : Int32) (v4 : Int32) (v5 : Int32) (σ : Hp), t_X7_findWorth_82 N k28 v1 v2 v4 v5 σ = some (r, σ') → ∀ (H : Heap) (locs : List Loc), Wd D cy 27 shM ad A s.heap σ H locs → ∀ ls : Array Slot, lv_has ls 8 [(0, .ref (ad 0)), (1, .int v1), (2, .int v2), (4, .int v4), (5, .int v5)] → Gi p l e us_X7_findWorth ({ frames := 0, cells := 0, slots := 0, locals := 0 } : Room) s m [.ref (ad 0), .int p0] below meth c D cy 27 shM ad A r σ' H locs (F0 m 82 ls []) := by
        intro v1 v2 v4 v5 σ h H locs hW ls hl
        unfold t_X7_findWorth_82 at h
        refine lv_iconst (v := 1) hx hb dX7_findWorth_82 (by decide) ?_
        refine lv_goto (tgt := 87) hx hb dX7_findWorth_83 (by decide) ?_
        exact J87 _ _ _ _ _ _ h _ _ hW _ (lv_sub hl [0, 1, 2, 3, 4] rfl)
      intro v1 v2 v3 v4 σ h H locs hW ls hl
      refine lv_iload hx hb dX7_findWorth_28 (lv_at hl 4 rfl) ?_
      refine lv_aload_n hx hb dX7_findWorth_30 rfl (lv_at hl 0 rfl) ?_
      refine r_geti hC hW 0 (Nat.le_of_ble_eq_true rfl) rfl rfl rfl (by decide) inUX7 (hts _ wd_294) rfl dX7_findWorth_31 ?_
      refine lv_icmp_ge (tgt := 189) hx hb dX7_findWorth_34 (by decide) (fun cq => ?_) (fun cq => ?_)
      · replace h := tp cq h
        refine lv_iload_n hx hb dX7_findWorth_189 rfl (lv_at hl 2 rfl) ?_
        exact r_iretW hC hr hlocks h hW dX7_findWorth_190
      · replace h := tn cq h
        refine lv_iload_n hx hb dX7_findWorth_37 rfl (lv_at hl 3 rfl) ?_
        refine lv_if_eq (tgt := 189) hx hb dX7_findWorth_38 (by decide) (fun cq => ?_) (fun cq => ?_)
        · replace h := tp cq h
          refine lv_iload_n hx hb dX7_findWorth_189 rfl (lv_at hl 2 rfl) ?_
          exact r_iretW hC hr hlocks h hW dX7_findWorth_190
        · replace h := tn cq h
          refine lv_aload_n hx hb dX7_findWorth_41 rfl (lv_at hl 0 rfl) ?_
          refine r_getr hC hW 6 (Nat.le_of_ble_eq_true rfl) rfl rfl rfl (by decide) inUX7 (hts _ wd_399) rfl dX7_findWorth_42 ?_
          refine lv_iload hx hb dX7_findWorth_45 (lv_at hl 4 rfl) ?_
          replace h := og h
          obtain ⟨hi, h⟩ := h
          refine r_ald hC hW (Nat.le_of_ble_eq_true rfl) rfl hi dX7_findWorth_47 ?_
          replace h := bx h
          obtain ⟨x4, ex4, h⟩ := h
          refine tope ex4 ?_
          clear ex4
          refine lv_istore (lv' := [(5, .int x4), (0, .ref (ad 0)), (1, .int v1), (2, .int v2), (3, .int v3), (4, .int v4)]) hx hb dX7_findWorth_48 hl (by decide) rfl (fun ls hln => ?_)
          replace hl := hln
          clear hln
          refine lv_aload_n hx hb dX7_findWorth_50 rfl (lv_at hl 1 rfl) ?_
          refine r_getr hC hW 2 (Nat.le_of_ble_eq_true rfl) rfl rfl rfl (by decide) inUX7 (hts _ wd_317) rfl dX7_findWorth_51 ?_
          refine lv_iload hx hb dX7_findWorth_54 (lv_at hl 0 rfl) ?_
          replace h := og h
          obtain ⟨hi, h⟩ := h
          refine r_ald hC hW (Nat.le_of_ble_eq_true rfl) rfl hi dX7_findWorth_56 ?_
          refine lv_aload_n hx hb dX7_findWorth_57 rfl (lv_at hl 1 rfl) ?_
          refine r_getr hC hW 1 (Nat.le_of_ble_eq_true rfl) rfl rfl rfl (by decide) inUX7 (hts _ wd_325) rfl dX7_findWorth_58 ?_
          refine lv_iload hx hb dX7_findWorth_61 (lv_at hl 0 rfl) ?_
          replace h := og h
          obtain ⟨hi, h⟩ := h
          refine r_ald hC hW (Nat.le_of_ble_eq_true rfl) rfl hi dX7_findWorth_63 ?_
          refine lv_icmp_ge (tgt := 82) hx hb dX7_findWorth_64 (by decide) (fun cq => ?_) (fun cq => ?_)
          · replace h := tp cq h
            exact J82 _ _ _ _ _ h _ _ hW _ (lv_sub hl [1, 2, 3, 5, 0] rfl)
          · replace h := tn cq h
            refine lv_iload_n hx hb dX7_findWorth_67 rfl (lv_at hl 2 rfl) ?_
            refine lv_aload_n hx hb dX7_findWorth_68 rfl (lv_at hl 1 rfl) ?_
            refine r_getr hC hW 4 (Nat.le_of_ble_eq_true rfl) rfl rfl rfl (by decide) inUX7 (hts _ wd_318) rfl dX7_findWorth_69 ?_
            refine lv_iload hx hb dX7_findWorth_72 (lv_at hl 0 rfl) ?_
            replace h := og h
            obtain ⟨hi, h⟩ := h
            refine r_ald hC hW (Nat.le_of_ble_eq_true rfl) rfl hi dX7_findWorth_74 ?_
            refine lv_ishr hx hb dX7_findWorth_75 ?_
            refine lv_iconst (v := 1) hx hb dX7_findWorth_76 (by decide) ?_
            refine lv_iand hx hb dX7_findWorth_77 ?_
            refine lv_iconst (v := 1) hx hb dX7_findWorth_78 (by decide) ?_
            refine lv_icmp_ne (tgt := 86) hx hb dX7_findWorth_79 (by decide) (fun cq => ?_) (fun cq => ?_)
            · replace h := tn cq h
              refine lv_iconst (v := 0) hx hb dX7_findWorth_86 (by decide) ?_
              exact J87 _ _ _ _ _ _ h _ _ hW _ (lv_sub hl [1, 2, 3, 5, 0] rfl)
            · replace h := tp cq h
              exact J82 _ _ _ _ _ h _ _ hW _ (lv_sub hl [1, 2, 3, 5, 0] rfl)
  have L2 : ∀ (f : Nat) (v1 : Int32) (v2 : Int32) (σ : Hp), t_X7_findWorth_2 N f v1 v2 σ = some (r, σ') → ∀ (H : Heap) (locs : List Loc), Wd D cy 27 shM ad A s.heap σ H locs → ∀ ls : Array Slot, lv_has ls 8 [(0, .ref (ad 0)), (1, .int v1), (2, .int v2)] → Gi p l e us_X7_findWorth ({ frames := 0, cells := 0, slots := 0, locals := 0 } : Room) s m [.ref (ad 0), .int p0] below meth c D cy 27 shM ad A r σ' H locs (F0 m 2 ls []) := by
    intro f
    unfold t_X7_findWorth_2
    refine loopG_ind (fun (T : Int32 → Int32 → Hp → Option (Int32 × Hp)) => ∀ (v1 : Int32) (v2 : Int32) (σ : Hp), T v1 v2 σ = some (r, σ') → ∀ (H : Heap) (locs : List Loc), Wd D cy 27 shM ad A s.heap σ H locs → ∀ ls : Array Slot, lv_has ls 8 [(0, .ref (ad 0)), (1, .int v1), (2, .int v2)] → Gi p l e us_X7_findWorth ({ frames := 0, cells := 0, slots := 0, locals := 0 } : Room) s m [.ref (ad 0), .int p0] below meth c D cy 27 shM ad A r σ' H locs (F0 m 2 ls [])) ?_ ?_ f
    · intro v1 v2 σ h; exact absurd h (by simp)
    · intro k2 ih2
      intro v1 v2 σ h H locs hW ls hl
      refine lv_iload_n hx hb dX7_findWorth_2 rfl (lv_at hl 2 rfl) ?_
      refine lv_bipush (v := 6) hx hb dX7_findWorth_3 (by decide) ?_
      refine lv_icmp_ge (tgt := 21) hx hb dX7_findWorth_5 (by decide) (fun cq => ?_) (fun cq => ?_)
      · replace h := tp cq h
        refine lv_iconst (v := 0) hx hb dX7_findWorth_21 (by decide) ?_
        refine lv_istore_n (lv' := [(2, .int 0), (0, .ref (ad 0)), (1, .int v1)]) hx hb dX7_findWorth_22 rfl hl (by decide) rfl (fun ls hln => ?_)
        replace hl := hln
        clear hln
        refine lv_iconst (v := 1) hx hb dX7_findWorth_23 (by decide) ?_
        refine lv_istore_n (lv' := [(3, .int 1), (2, .int 0), (0, .ref (ad 0)), (1, .int v1)]) hx hb dX7_findWorth_24 rfl hl (by decide) rfl (fun ls hln => ?_)
        replace hl := hln
        clear hln
        refine lv_iconst (v := 0) hx hb dX7_findWorth_25 (by decide) ?_
        refine lv_istore (lv' := [(4, .int 0), (3, .int 1), (2, .int 0), (0, .ref (ad 0)), (1, .int v1)]) hx hb dX7_findWorth_26 hl (by decide) rfl (fun ls hln => ?_)
        replace hl := hln
        clear hln
        exact L28 _ _ _ _ _ _ h _ _ hW _ (lv_sub hl [3, 4, 2, 1, 0] rfl)
      · replace h := tn cq h
        refine lv_aload_n hx hb dX7_findWorth_8 rfl (lv_at hl 0 rfl) ?_
        refine r_getr hC hW 37 (Nat.le_of_ble_eq_true rfl) rfl rfl rfl (by decide) inUX7 (hts _ wd_433) rfl dX7_findWorth_9 ?_
        refine lv_iload_n hx hb dX7_findWorth_12 rfl (lv_at hl 2 rfl) ?_
        refine lv_iconst (v := 0) hx hb dX7_findWorth_13 (by decide) ?_
        replace h := og h
        obtain ⟨hi, h⟩ := h
        refine r_ast hC hW (Nat.le_of_ble_eq_true rfl) rfl hi dX7_findWorth_14 (fun σ5 eσ5 H locs hWn => ?_)
        replace h := bn eσ5 h
        replace hW := hWn
        clear hWn eσ5
        replace h := bx h
        obtain ⟨x6, ex6, h⟩ := h
        refine lv_iinc (v := x6) (lv' := [(2, .int x6), (0, .ref (ad 0)), (1, .int v1)]) hx hb dX7_findWorth_15 hl (k := 2) rfl (by rw [ex6]; rfl) (by decide) rfl (fun ls hln => ?_)
        replace hl := hln
        clear hln ex6
        refine lv_goto (tgt := 2) hx hb dX7_findWorth_18 (by decide) ?_
        exact ih2 _ _ _ h _ _ hW _ (lv_sub hl [1, 2, 0] rfl)
  refine lv_iconst (v := 0) hx hb dX7_findWorth_0 (by decide) ?_
  refine lv_istore_n (lv' := [(2, .int 0), (0, .ref (ad 0)), (1, .int p0)]) hx hb dX7_findWorth_1 rfl hl (by decide) rfl (fun ls hln => ?_)
  replace hl := hln
  clear hln
  exact L2 _ _ _ _ h _ _ hW _ (lv_sub hl [1, 2, 0] rfl)
set_option maxHeartbeats 4000000 in
set_option maxRecDepth 100000 in
theorem c_X7_firsts (l : Launch) (D : va_G) (cy : ClassId × ClassId) (ad : Nat → Nat) (A : Nat → Prop) (N : Nat) (σ : Hp) (r : Int32) (σ' : Hp) (h : t_X7_firsts N σ = some (r, σ')) : Ci l yX7_firsts us_X7_firsts ({ frames := 5, cells := 0, slots := 0, locals := 111 } : Room) D cy 27 shM ad A [.ref (ad 0)] σ r σ' := by
  unfold t_X7_firsts at h
  refine Met.ofW (cc := cX7_firsts) (maxL := 4) (ret := (some .int)) (by decide) rfl ?_
  intro p e s m args below meth c s₁ B hml hv
  obtain ⟨rfl, hP, hK, hD, hA, hN⟩ := hv
  have hx := B.exec
  have hb := B.bytes
  have hr := B.returns
  have hlocks := B.notSynchronized
  have hts : ∀ w ∈ wsU, w.before _ s = true := fun w h => atoms_spec (ws := us_X7_firsts) B.pre w (List.mem_cons_of_mem _ h)
  have hown : s.vm.findClass RX7 = some m.cls := findClass_of_methodNamed B.named
  have hC : Cx p m c cX7_firsts 4 s _ wsU RX7 D cy := ⟨⟨hx, hb, hml, hown, hts⟩, hK, hN⟩
  have hW : Wd D cy 27 shM ad A s.heap σ s.heap [] := ⟨hP, hD, va_S.rf, hA⟩
  have hl := lv_entry ([.ref (ad 0)]) (n := 4) (Nat.le_of_ble_eq_true rfl)
  rw [lg_entry_eq]
  generalize (lg_sl ([.ref (ad 0)]) ++ List.replicate (4 - (lg_sl ([.ref (ad 0)])).length) Slot.unset).toArray = ls at hl ⊢
  have hl : lv_has ls 4 [(0, .ref (ad 0))] := hl
  have L17 : ∀ (f : Nat) (v2 : Int32) (v3 : Int32) (σ : Hp), t_X7_firsts_17 N f v2 v3 σ = some (r, σ') → ∀ (H : Heap) (locs : List Loc), Wd D cy 27 shM ad A s.heap σ H locs → ∀ ls : Array Slot, lv_has ls 4 [(0, .ref (ad 0)), (2, .int v2), (3, .int v3)] → Gi p l e us_X7_firsts ({ frames := 5, cells := 0, slots := 0, locals := 111 } : Room) s m [.ref (ad 0)] below meth c D cy 27 shM ad A r σ' H locs (F0 m 17 ls []) := by
    intro f
    unfold t_X7_firsts_17
    refine loopG_ind (fun (T : Int32 → Int32 → Hp → Option (Int32 × Hp)) => ∀ (v2 : Int32) (v3 : Int32) (σ : Hp), T v2 v3 σ = some (r, σ') → ∀ (H : Heap) (locs : List Loc), Wd D cy 27 shM ad A s.heap σ H locs → ∀ ls : Array Slot, lv_has ls 4 [(0, .ref (ad 0)), (2, .int v2), (3, .int v3)] → Gi p l e us_X7_firsts ({ frames := 5, cells := 0, slots := 0, locals := 111 } : Room) s m [.ref (ad 0)] below meth c D cy 27 shM ad A r σ' H locs (F0 m 17 ls [])) ?_ ?_ f
    · intro v2 v3 σ h; exact absurd h (by simp)
    · intro k17 ih17
      have J45 : ∀ (v3 : Int32) (s0 : Int32) (s1 : Int32) (σ : Hp), t_X7_firsts_45 N k17 v3 s0 s1 σ = some (r, σ') → ∀ (H : Heap) (locs : List Loc), Wd D cy 27 shM ad A s.heap σ H locs → ∀ ls : Array Slot, lv_has ls 4 [(0, .ref (ad 0)), (3, .int v3)] → Gi p l e us_X7_firsts ({ frames := 5, cells := 0, slots := 0, locals := 111 } : Room) s m [.ref (ad 0)] below meth c D cy 27 shM ad A r σ' H locs (F0 m 45 ls [.int s1, .int s0]) := by
        intro v3 s0 s1 σ h H locs hW ls hl
        unfold t_X7_firsts_45 at h
        refine lv_ior hx hb dX7_firsts_45 ?_
        replace h := bx h
        obtain ⟨x1, ex1, h⟩ := h
        refine tope ex1 ?_
        clear ex1
        refine lv_istore_n (lv' := [(2, .int x1), (0, .ref (ad 0)), (3, .int v3)]) hx hb dX7_firsts_46 rfl hl (by decide) rfl (fun ls hln => ?_)
        replace hl := hln
        clear hln
        replace h := bx h
        obtain ⟨x2, ex2, h⟩ := h
        refine lv_iinc (v := x2) (lv' := [(3, .int x2), (2, .int x1), (0, .ref (ad 0))]) hx hb dX7_firsts_47 hl (k := 2) rfl (by rw [ex2]; rfl) (by decide) rfl (fun ls hln => ?_)
        replace hl := hln
        clear hln ex2
        refine lv_goto (tgt := 17) hx hb dX7_firsts_50 (by decide) ?_
        exact ih17 _ _ _ h _ _ hW _ (lv_sub hl [2, 1, 0] rfl)
      intro v2 v3 σ h H locs hW ls hl
      refine lv_iload_n hx hb dX7_firsts_17 rfl (lv_at hl 2 rfl) ?_
      refine lv_aload_n hx hb dX7_firsts_18 rfl (lv_at hl 0 rfl) ?_
      refine r_geti hC hW 0 (Nat.le_of_ble_eq_true rfl) rfl rfl rfl (by decide) inUX7 (hts _ wd_294) rfl dX7_firsts_19 ?_
      refine lv_icmp_ge (tgt := 53) hx hb dX7_firsts_22 (by decide) (fun cq => ?_) (fun cq => ?_)
      · replace h := tp cq h
        refine lv_iload_n hx hb dX7_firsts_53 rfl (lv_at hl 1 rfl) ?_
        exact r_iretW hC hr hlocks h hW dX7_firsts_54
      · replace h := tn cq h
        refine lv_iload_n hx hb dX7_firsts_25 rfl (lv_at hl 1 rfl) ?_
        refine lv_aload_n hx hb dX7_firsts_26 rfl (lv_at hl 0 rfl) ?_
        refine r_getr hC hW 35 (Nat.le_of_ble_eq_true rfl) rfl rfl rfl (by decide) inUX7 (hts _ wd_355) rfl dX7_firsts_27 ?_
        refine lv_bipush (v := 7) hx hb dX7_firsts_30 (by decide) ?_
        refine lv_iload_n hx hb dX7_firsts_32 rfl (lv_at hl 2 rfl) ?_
        refine lv_imul hx hb dX7_firsts_33 ?_
        replace h := og h
        obtain ⟨hi, h⟩ := h
        refine r_ald hC hW (Nat.le_of_ble_eq_true rfl) rfl hi dX7_firsts_34 ?_
        refine lv_if_le (tgt := 44) hx hb dX7_firsts_35 (by decide) (fun cq => ?_) (fun cq => ?_)
        · replace h := tp cq h
          refine lv_iconst (v := 0) hx hb dX7_firsts_44 (by decide) ?_
          exact J45 _ _ _ _ h _ _ hW _ (lv_sub hl [0, 2] rfl)
        · replace h := tn cq h
          refine lv_iconst (v := 1) hx hb dX7_firsts_38 (by decide) ?_
          refine lv_iload_n hx hb dX7_firsts_39 rfl (lv_at hl 2 rfl) ?_
          refine lv_ishl hx hb dX7_firsts_40 ?_
          refine lv_goto (tgt := 45) hx hb dX7_firsts_41 (by decide) ?_
          exact J45 _ _ _ _ h _ _ hW _ (lv_sub hl [0, 2] rfl)
  refine lv_aload_n hx hb dX7_firsts_0 rfl (lv_at hl 0 rfl) ?_
  replace h := ob h
  obtain ⟨r3, σ4, hc, h⟩ := h
  refine r_calli hW (va_runV (As := []) (rest := []) hC.1 (c_X7_goFits l D cy ad A N _ _ _ hc) (cwV 0 hts (gdV wd_395 wd_396 wd_397 wd_300 wd_394) rfl rfl rfl (by decide +kernel) ⟨Nat.le_of_ble_eq_true rfl, Nat.le_of_ble_eq_true rfl⟩) (r_preV hC hW (Nat.le_of_ble_eq_true rfl) rfl rfl) rfl rfl hl.1 rfl (lv_room (Nat.le_of_ble_eq_true rfl)) dX7_firsts_1 ⟨Nat.zero_le _, Nat.zero_le _⟩) (fun H locs hWn => ?_)
  replace hW := hWn
  clear hWn hc
  refine lv_istore_n (lv' := [(1, .int r3), (0, .ref (ad 0))]) hx hb dX7_firsts_4 rfl hl (by decide) rfl (fun ls hln => ?_)
  replace hl := hln
  clear hln
  refine lv_iload_n hx hb dX7_firsts_5 rfl (lv_at hl 0 rfl) ?_
  refine lv_bipush (v := (-6)) hx hb dX7_firsts_6 (by decide) ?_
  refine lv_icmp_eq (tgt := 13) hx hb dX7_firsts_8 (by decide) (fun cq => ?_) (fun cq => ?_)
  · replace h := tp cq h
    refine lv_iconst (v := 0) hx hb dX7_firsts_13 (by decide) ?_
    refine lv_istore_n (lv' := [(2, .int 0), (1, .int r3), (0, .ref (ad 0))]) hx hb dX7_firsts_14 rfl hl (by decide) rfl (fun ls hln => ?_)
    replace hl := hln
    clear hln
    refine lv_iconst (v := 0) hx hb dX7_firsts_15 (by decide) ?_
    refine lv_istore_n (lv' := [(3, .int 0), (2, .int 0), (1, .int r3), (0, .ref (ad 0))]) hx hb dX7_firsts_16 rfl hl (by decide) rfl (fun ls hln => ?_)
    replace hl := hln
    clear hln
    exact L17 _ _ _ _ h _ _ hW _ (lv_sub hl [3, 1, 0] rfl)
  · replace h := tn cq h
    refine lv_iload_n hx hb dX7_firsts_11 rfl (lv_at hl 0 rfl) ?_
    exact r_iretW hC hr hlocks h hW dX7_firsts_12
set_option maxHeartbeats 4000000 in
set_option maxRecDepth 100000 in
theorem c_X7_fits (l : Launch) (D : va_G) (cy : ClassId × ClassId) (ad : Nat → Nat) (A : Nat → Prop) (N : Nat) (p0 : Int32) (σ : Hp) (r : Int32) (σ' : Hp) (h : t_X7_fits N p0 σ = some (r, σ')) : Ci l yX7_fits us_X7_fits ({ frames := 5, cells := 0, slots := 0, locals := 111 } : Room) D cy 27 shM ad A [.ref (ad 0), .int p0] σ r σ' := by
  unfold t_X7_fits at h
  refine Met.ofW (cc := cX7_fits) (maxL := 3) (ret := (some .int)) (by decide) rfl ?_
  intro p e s m args below meth c s₁ B hml hv
  obtain ⟨rfl, hP, hK, hD, hA, hN⟩ := hv
  have hx := B.exec
  have hb := B.bytes
  have hr := B.returns
  have hlocks := B.notSynchronized
  have hts : ∀ w ∈ wsU, w.before _ s = true := fun w h => atoms_spec (ws := us_X7_fits) B.pre w (List.mem_cons_of_mem _ h)
  have hown : s.vm.findClass RX7 = some m.cls := findClass_of_methodNamed B.named
  have hC : Cx p m c cX7_fits 3 s _ wsU RX7 D cy := ⟨⟨hx, hb, hml, hown, hts⟩, hK, hN⟩
  have hW : Wd D cy 27 shM ad A s.heap σ s.heap [] := ⟨hP, hD, va_S.rf, hA⟩
  have hl := lv_entry ([.ref (ad 0), .int p0]) (n := 3) (Nat.le_of_ble_eq_true rfl)
  rw [lg_entry_eq]
  generalize (lg_sl ([.ref (ad 0), .int p0]) ++ List.replicate (3 - (lg_sl ([.ref (ad 0), .int p0])).length) Slot.unset).toArray = ls at hl ⊢
  have hl : lv_has ls 3 [(0, .ref (ad 0)), (1, .int p0)] := hl
  have J49 : ∀ (σ : Hp), t_X7_fits_49 N  σ = some (r, σ') → ∀ (H : Heap) (locs : List Loc), Wd D cy 27 shM ad A s.heap σ H locs → ∀ ls : Array Slot, lv_has ls 3 [] → Gi p l e us_X7_fits ({ frames := 5, cells := 0, slots := 0, locals := 111 } : Room) s m [.ref (ad 0), .int p0] below meth c D cy 27 shM ad A r σ' H locs (F0 m 49 ls []) := by
    intro  σ h H locs hW ls hl
    unfold t_X7_fits_49 at h
    refine lv_bipush (v := (-6)) hx hb dX7_fits_49 (by decide) ?_
    exact r_iretW hC hr hlocks h hW dX7_fits_51
  refine lv_aload_n hx hb dX7_fits_0 rfl (lv_at hl 0 rfl) ?_
  replace h := ob h
  obtain ⟨r1, σ2, hc, h⟩ := h
  refine r_calli hW (va_runV (As := []) (rest := []) hC.1 (c_X7_goFits l D cy ad A N _ _ _ hc) (cwV 0 hts (gdV wd_395 wd_396 wd_397 wd_300 wd_394) rfl rfl rfl (by decide +kernel) ⟨Nat.le_of_ble_eq_true rfl, Nat.le_of_ble_eq_true rfl⟩) (r_preV hC hW (Nat.le_of_ble_eq_true rfl) rfl rfl) rfl rfl hl.1 rfl (lv_room (Nat.le_of_ble_eq_true rfl)) dX7_fits_1 ⟨Nat.zero_le _, Nat.zero_le _⟩) (fun H locs hWn => ?_)
  replace hW := hWn
  clear hWn hc
  refine lv_istore_n (lv' := [(2, .int r1), (0, .ref (ad 0)), (1, .int p0)]) hx hb dX7_fits_4 rfl hl (by decide) rfl (fun ls hln => ?_)
  replace hl := hln
  clear hln
  refine lv_iload_n hx hb dX7_fits_5 rfl (lv_at hl 0 rfl) ?_
  refine lv_bipush (v := (-6)) hx hb dX7_fits_6 (by decide) ?_
  refine lv_icmp_eq (tgt := 13) hx hb dX7_fits_8 (by decide) (fun cq => ?_) (fun cq => ?_)
  · replace h := tp cq h
    refine lv_iload_n hx hb dX7_fits_13 rfl (lv_at hl 2 rfl) ?_
    refine lv_iconst (v := (-1)) hx hb dX7_fits_14 (by decide) ?_
    refine lv_icmp_ne (tgt := 25) hx hb dX7_fits_15 (by decide) (fun cq => ?_) (fun cq => ?_)
    · replace h := tn cq h
      refine lv_aload_n hx hb dX7_fits_25 rfl (lv_at hl 1 rfl) ?_
      refine r_geti hC hW 33 (Nat.le_of_ble_eq_true rfl) rfl rfl rfl (by decide) inUX7 (hts _ wd_356) rfl dX7_fits_26 ?_
      refine lv_if_le (tgt := 49) hx hb dX7_fits_29 (by decide) (fun cq => ?_) (fun cq => ?_)
      · replace h := tp cq h
        exact J49 _ h _ _ hW _ (lv_sub hl [] rfl)
      · replace h := tn cq h
        refine lv_aload_n hx hb dX7_fits_32 rfl (lv_at hl 1 rfl) ?_
        refine lv_iload_n hx hb dX7_fits_33 rfl (lv_at hl 2 rfl) ?_
        replace h := bd h
        obtain ⟨r3, hc, h⟩ := h
        refine r_calli hW (va_runV (As := [.int p0]) (rest := []) hC.1 (c_X7_isEgg l D cy ad A _ _ _ hc) (cwV 1 hts (gdV wd_307 wd_308 wd_309 wd_300 wd_306) rfl rfl rfl (by decide +kernel) ⟨Nat.le_of_ble_eq_true rfl, Nat.le_of_ble_eq_true rfl⟩) (r_preV hC hW (Nat.le_of_ble_eq_true rfl) rfl rfl) rfl rfl hl.1 rfl (lv_room (Nat.le_of_ble_eq_true rfl)) dX7_fits_34 ⟨Nat.zero_le _, Nat.zero_le _⟩) (fun H locs hWn => ?_)
        replace hW := hWn
        clear hWn hc
        refine lv_if_eq (tgt := 49) hx hb dX7_fits_37 (by decide) (fun cq => ?_) (fun cq => ?_)
        · replace h := tp cq h
          exact J49 _ h _ _ hW _ (lv_sub hl [] rfl)
        · replace h := tn cq h
          refine lv_aload_n hx hb dX7_fits_40 rfl (lv_at hl 1 rfl) ?_
          refine r_getr hC hW 34 (Nat.le_of_ble_eq_true rfl) rfl rfl rfl (by decide) inUX7 (hts _ wd_357) rfl dX7_fits_41 ?_
          refine lv_iload_n hx hb dX7_fits_44 rfl (lv_at hl 2 rfl) ?_
          replace h := og h
          obtain ⟨hi, h⟩ := h
          refine r_ald hC hW (Nat.le_of_ble_eq_true rfl) rfl hi dX7_fits_45 ?_
          refine lv_goto (tgt := 51) hx hb dX7_fits_46 (by decide) ?_
          exact r_iretW hC hr hlocks h hW dX7_fits_51
    · replace h := tp cq h
      refine lv_aload_n hx hb dX7_fits_18 rfl (lv_at hl 1 rfl) ?_
      refine r_geti hC hW 33 (Nat.le_of_ble_eq_true rfl) rfl rfl rfl (by decide) inUX7 (hts _ wd_356) rfl dX7_fits_19 ?_
      refine lv_goto (tgt := 51) hx hb dX7_fits_22 (by decide) ?_
      exact r_iretW hC hr hlocks h hW dX7_fits_51
  · replace h := tn cq h
    refine lv_iload_n hx hb dX7_fits_11 rfl (lv_at hl 0 rfl) ?_
    exact r_iretW hC hr hlocks h hW dX7_fits_12
set_option maxHeartbeats 4000000 in
set_option maxRecDepth 100000 in
theorem c_X7_forget (l : Launch) (D : va_G) (cy : ClassId × ClassId) (ad : Nat → Nat) (A : Nat → Prop) (p0 : Int32) (σ : Hp) (r : Int32) (σ' : Hp) (h : t_X7_forget p0 σ = some (r, σ')) : Ci l yX7_forget us_X7_forget ({ frames := 1, cells := 0, slots := 0, locals := 25 } : Room) D cy 27 shM ad A [.ref (ad 0), .int p0] σ r σ' := by
  unfold t_X7_forget at h
  refine Met.ofW (cc := cX7_forget) (maxL := 3) (ret := (some .int)) (by decide) rfl ?_
  intro p e s m args below meth c s₁ B hml hv
  obtain ⟨rfl, hP, hK, hD, hA, hN⟩ := hv
  have hx := B.exec
  have hb := B.bytes
  have hr := B.returns
  have hlocks := B.notSynchronized
  have hts : ∀ w ∈ wsU, w.before _ s = true := fun w h => atoms_spec (ws := us_X7_forget) B.pre w (List.mem_cons_of_mem _ h)
  have hown : s.vm.findClass RX7 = some m.cls := findClass_of_methodNamed B.named
  have hC : Cx p m c cX7_forget 3 s _ wsU RX7 D cy := ⟨⟨hx, hb, hml, hown, hts⟩, hK, hN⟩
  have hW : Wd D cy 27 shM ad A s.heap σ s.heap [] := ⟨hP, hD, va_S.rf, hA⟩
  have hl := lv_entry ([.ref (ad 0), .int p0]) (n := 3) (Nat.le_of_ble_eq_true rfl)
  rw [lg_entry_eq]
  generalize (lg_sl ([.ref (ad 0), .int p0]) ++ List.replicate (3 - (lg_sl ([.ref (ad 0), .int p0])).length) Slot.unset).toArray = ls at hl ⊢
  have hl : lv_has ls 3 [(0, .ref (ad 0)), (1, .int p0)] := hl
  have J42 : ∀ (v1 : Int32) (v2 : Int32) (s1 : Int32) (σ : Hp), t_X7_forget_42 v1 v2 s1 σ = some (r, σ') → ∀ (H : Heap) (locs : List Loc), Wd D cy 27 shM ad A s.heap σ H locs → ∀ ls : Array Slot, lv_has ls 3 [(0, .ref (ad 0)), (1, .int v1), (2, .int v2)] → Gi p l e us_X7_forget ({ frames := 1, cells := 0, slots := 0, locals := 25 } : Room) s m [.ref (ad 0), .int p0] below meth c D cy 27 shM ad A r σ' H locs (F0 m 42 ls [.int s1, .ref (ad 0)]) := by
    intro v1 v2 s1 σ h H locs hW ls hl
    unfold t_X7_forget_42 at h
    refine r_put hC hW 11 (Nat.le_of_ble_eq_true rfl) rfl rfl rfl (by decide) inUX7 tyX7 tyX7_ok nmX7 (hts _ wd_320) rfl rfl ⟨rfl, rfl⟩ dX7_forget_42 (fun σ1 eσ1 H locs hWn => ?_)
    replace h := bn eσ1 h
    replace hW := hWn
    clear hWn eσ1
    refine lv_aload_n hx hb dX7_forget_45 rfl (lv_at hl 0 rfl) ?_
    refine lv_iload_n hx hb dX7_forget_46 rfl (lv_at hl 1 rfl) ?_
    refine lv_iconst (v := 1) hx hb dX7_forget_47 (by decide) ?_
    refine lv_icmp_ne (tgt := 55) hx hb dX7_forget_48 (by decide) (fun cq => ?_) (fun cq => ?_)
    · replace h := tn cq h
      refine lv_aload_n hx hb dX7_forget_55 rfl (lv_at hl 0 rfl) ?_
      refine r_geti hC hW 14 (Nat.le_of_ble_eq_true rfl) rfl rfl rfl (by decide) inUX7 (hts _ wd_343) rfl dX7_forget_56 ?_
      refine r_put hC hW 14 (Nat.le_of_ble_eq_true rfl) rfl rfl rfl (by decide) inUX7 tyX7 tyX7_ok nmX7 (hts _ wd_343) rfl rfl ⟨rfl, rfl⟩ dX7_forget_59 (fun σ2 eσ2 H locs hWn => ?_)
      replace h := bn eσ2 h
      replace hW := hWn
      clear hWn eσ2
      refine lv_iload_n hx hb dX7_forget_62 rfl (lv_at hl 2 rfl) ?_
      exact r_iretW hC hr hlocks h hW dX7_forget_63
    · replace h := tp cq h
      refine lv_iconst (v := 0) hx hb dX7_forget_51 (by decide) ?_
      refine lv_goto (tgt := 59) hx hb dX7_forget_52 (by decide) ?_
      refine r_put hC hW 14 (Nat.le_of_ble_eq_true rfl) rfl rfl rfl (by decide) inUX7 tyX7 tyX7_ok nmX7 (hts _ wd_343) rfl rfl ⟨rfl, rfl⟩ dX7_forget_59 (fun σ3 eσ3 H locs hWn => ?_)
      replace h := bn eσ3 h
      replace hW := hWn
      clear hWn eσ3
      refine lv_iload_n hx hb dX7_forget_62 rfl (lv_at hl 2 rfl) ?_
      exact r_iretW hC hr hlocks h hW dX7_forget_63
  have J28 : ∀ (v1 : Int32) (s0 : Int32) (σ : Hp), t_X7_forget_28 v1 s0 σ = some (r, σ') → ∀ (H : Heap) (locs : List Loc), Wd D cy 27 shM ad A s.heap σ H locs → ∀ ls : Array Slot, lv_has ls 3 [(0, .ref (ad 0)), (1, .int v1)] → Gi p l e us_X7_forget ({ frames := 1, cells := 0, slots := 0, locals := 25 } : Room) s m [.ref (ad 0), .int p0] below meth c D cy 27 shM ad A r σ' H locs (F0 m 28 ls [.int s0]) := by
    intro v1 s0 σ h H locs hW ls hl
    unfold t_X7_forget_28 at h
    refine lv_istore_n (lv' := [(2, .int s0), (0, .ref (ad 0)), (1, .int v1)]) hx hb dX7_forget_28 rfl hl (by decide) rfl (fun ls hln => ?_)
    replace hl := hln
    clear hln
    refine lv_aload_n hx hb dX7_forget_29 rfl (lv_at hl 1 rfl) ?_
    refine lv_iload_n hx hb dX7_forget_30 rfl (lv_at hl 2 rfl) ?_
    refine lv_if_ne (tgt := 38) hx hb dX7_forget_31 (by decide) (fun cq => ?_) (fun cq => ?_)
    · replace h := tn cq h
      refine lv_aload_n hx hb dX7_forget_38 rfl (lv_at hl 1 rfl) ?_
      refine r_geti hC hW 11 (Nat.le_of_ble_eq_true rfl) rfl rfl rfl (by decide) inUX7 (hts _ wd_320) rfl dX7_forget_39 ?_
      exact J42 _ _ _ _ h _ _ hW _ (lv_sub hl [1, 2, 0] rfl)
    · replace h := tp cq h
      refine lv_iconst (v := 0) hx hb dX7_forget_34 (by decide) ?_
      refine lv_goto (tgt := 42) hx hb dX7_forget_35 (by decide) ?_
      exact J42 _ _ _ _ h _ _ hW _ (lv_sub hl [1, 2, 0] rfl)
  refine lv_iload_n hx hb dX7_forget_0 rfl (lv_at hl 1 rfl) ?_
  refine lv_i2l hx hb dX7_forget_1 rfl ?_
  refine lv_lconst (v := 0) hx hb dX7_forget_2 (by decide) ?_
  refine lv_lconst (v := 1) hx hb dX7_forget_3 (by decide) ?_
  replace h := bd h
  obtain ⟨r4, hc, h⟩ := h
  refine r_calli hW (va_runS (As := [.long (p0.toInt64), .long 0, .long 1]) (rest := []) hC.1 (c_X7_in l D cy ad A _ _ _ _ _ hc) (va_cwS 3 hts (gdS wd_298 wd_299 wd_300 wd_297) rfl rfl rfl (by decide +kernel) ⟨Nat.le_of_ble_eq_true rfl, Nat.le_of_ble_eq_true rfl⟩) (r_preS hC hW) rfl rfl hl.1 rfl (lv_room (Nat.le_of_ble_eq_true rfl)) dX7_forget_4 ⟨Nat.zero_le _, Nat.zero_le _⟩) (fun H locs hWn => ?_)
  replace hW := hWn
  clear hWn hc
  refine lv_if_ne (tgt := 13) hx hb dX7_forget_7 (by decide) (fun cq => ?_) (fun cq => ?_)
  · replace h := tn cq h
    refine lv_iload_n hx hb dX7_forget_13 rfl (lv_at hl 1 rfl) ?_
    refine lv_if_ne (tgt := 24) hx hb dX7_forget_14 (by decide) (fun cq => ?_) (fun cq => ?_)
    · replace h := tn cq h
      refine lv_aload_n hx hb dX7_forget_24 rfl (lv_at hl 0 rfl) ?_
      refine r_geti hC hW 14 (Nat.le_of_ble_eq_true rfl) rfl rfl rfl (by decide) inUX7 (hts _ wd_343) rfl dX7_forget_25 ?_
      exact J28 _ _ _ h _ _ hW _ (lv_sub hl [0, 1] rfl)
    · replace h := tp cq h
      refine lv_aload_n hx hb dX7_forget_17 rfl (lv_at hl 0 rfl) ?_
      refine r_geti hC hW 11 (Nat.le_of_ble_eq_true rfl) rfl rfl rfl (by decide) inUX7 (hts _ wd_320) rfl dX7_forget_18 ?_
      refine lv_goto (tgt := 28) hx hb dX7_forget_21 (by decide) ?_
      exact J28 _ _ _ h _ _ hW _ (lv_sub hl [0, 1] rfl)
  · replace h := tp cq h
    refine lv_bipush (v := (-2)) hx hb dX7_forget_10 (by decide) ?_
    exact r_iretW hC hr hlocks h hW dX7_forget_12
set_option maxHeartbeats 4000000 in
set_option maxRecDepth 100000 in
theorem c_X7_gainOf (l : Launch) (D : va_G) (cy : ClassId × ClassId) (ad : Nat → Nat) (A : Nat → Prop) (N : Nat) (p0 : Int32) (p1 : Int32) (p2 : Int32) (σ : Hp) (r : Int32) (σ' : Hp) (h : t_X7_gainOf N p0 p1 p2 σ = some (r, σ')) : Ci l yX7_gainOf us_X7_gainOf ({ frames := 1, cells := 0, slots := 0, locals := 27 } : Room) D cy 27 shM ad A [.ref (ad 0), .int p0, .int p1, .int p2] σ r σ' := by
  unfold t_X7_gainOf at h
  refine Met.ofW (cc := cX7_gainOf) (maxL := 4) (ret := (some .int)) (by decide) rfl ?_
  intro p e s m args below meth c s₁ B hml hv
  obtain ⟨rfl, hP, hK, hD, hA, hN⟩ := hv
  have hx := B.exec
  have hb := B.bytes
  have hr := B.returns
  have hlocks := B.notSynchronized
  have hts : ∀ w ∈ wsU, w.before _ s = true := fun w h => atoms_spec (ws := us_X7_gainOf) B.pre w (List.mem_cons_of_mem _ h)
  have hown : s.vm.findClass RX7 = some m.cls := findClass_of_methodNamed B.named
  have hC : Cx p m c cX7_gainOf 4 s _ wsU RX7 D cy := ⟨⟨hx, hb, hml, hown, hts⟩, hK, hN⟩
  have hW : Wd D cy 27 shM ad A s.heap σ s.heap [] := ⟨hP, hD, va_S.rf, hA⟩
  have hl := lv_entry ([.ref (ad 0), .int p0, .int p1, .int p2]) (n := 4) (Nat.le_of_ble_eq_true rfl)
  rw [lg_entry_eq]
  generalize (lg_sl ([.ref (ad 0), .int p0, .int p1, .int p2]) ++ List.replicate (4 - (lg_sl ([.ref (ad 0), .int p0, .int p1, .int p2])).length) Slot.unset).toArray = ls at hl ⊢
  have hl : lv_has ls 4 [(0, .ref (ad 0)), (1, .int p0), (2, .int p1), (3, .int p2)] := hl
  refine lv_aload_n hx hb dX7_gainOf_0 rfl (lv_at hl 0 rfl) ?_
  refine lv_iload_n hx hb dX7_gainOf_1 rfl (lv_at hl 2 rfl) ?_
  replace h := ob h
  obtain ⟨r1, σ2, hc, h⟩ := h
  refine r_calli hW (va_runV (As := [.int p1]) (rest := []) hC.1 (c_X7_findWorth l D cy ad A N _ _ _ _ hc) (cwV 1 hts (gdV wd_435 wd_436 wd_437 wd_300 wd_434) rfl rfl rfl (by decide +kernel) ⟨Nat.le_of_ble_eq_true rfl, Nat.le_of_ble_eq_true rfl⟩) (r_preV hC hW (Nat.le_of_ble_eq_true rfl) rfl rfl) rfl rfl hl.1 rfl (lv_room (Nat.le_of_ble_eq_true rfl)) dX7_gainOf_2 ⟨Nat.zero_le _, Nat.zero_le _⟩) (fun H locs hWn => ?_)
  replace hW := hWn
  clear hWn hc
  refine lv_pop hx hb dX7_gainOf_5 rfl ?_
  refine lv_aload_n hx hb dX7_gainOf_6 rfl (lv_at hl 0 rfl) ?_
  refine r_getr hC hW 37 (Nat.le_of_ble_eq_true rfl) rfl rfl rfl (by decide) inUX7 (hts _ wd_433) rfl dX7_gainOf_7 ?_
  refine lv_iload_n hx hb dX7_gainOf_10 rfl (lv_at hl 1 rfl) ?_
  replace h := og h
  obtain ⟨hi, h⟩ := h
  refine r_ald hC hW (Nat.le_of_ble_eq_true rfl) rfl hi dX7_gainOf_11 ?_
  refine lv_iload_n hx hb dX7_gainOf_12 rfl (lv_at hl 2 rfl) ?_
  refine lv_iload_n hx hb dX7_gainOf_13 rfl (lv_at hl 1 rfl) ?_
  refine lv_ishr hx hb dX7_gainOf_14 ?_
  refine lv_iconst (v := 1) hx hb dX7_gainOf_15 (by decide) ?_
  refine lv_iand hx hb dX7_gainOf_16 ?_
  refine lv_iconst (v := 1) hx hb dX7_gainOf_17 (by decide) ?_
  refine lv_icmp_ne (tgt := 25) hx hb dX7_gainOf_18 (by decide) (fun cq => ?_) (fun cq => ?_)
  · replace h := tn cq h
    refine lv_iconst (v := 0) hx hb dX7_gainOf_25 (by decide) ?_
    refine lv_isub hx hb dX7_gainOf_26 ?_
    exact r_iretW hC hr hlocks h hW dX7_gainOf_27
  · replace h := tp cq h
    refine lv_iload_n hx hb dX7_gainOf_21 rfl (lv_at hl 3 rfl) ?_
    refine lv_goto (tgt := 26) hx hb dX7_gainOf_22 (by decide) ?_
    refine lv_isub hx hb dX7_gainOf_26 ?_
    exact r_iretW hC hr hlocks h hW dX7_gainOf_27
set_option maxHeartbeats 4000000 in
set_option maxRecDepth 100000 in
theorem c_X7_hatched (l : Launch) (D : va_G) (cy : ClassId × ClassId) (ad : Nat → Nat) (A : Nat → Prop) (N : Nat) (p0 : Int32) (σ : Hp) (r : Int32) (σ' : Hp) (h : t_X7_hatched N p0 σ = some (r, σ')) : Ci l yX7_hatched us_X7_hatched ({ frames := 4, cells := 0, slots := 0, locals := 93 } : Room) D cy 27 shM ad A [.ref (ad 0), .int p0] σ r σ' := by
  unfold t_X7_hatched at h
  refine Met.ofW (cc := cX7_hatched) (maxL := 3) (ret := (some .int)) (by decide) rfl ?_
  intro p e s m args below meth c s₁ B hml hv
  obtain ⟨rfl, hP, hK, hD, hA, hN⟩ := hv
  have hx := B.exec
  have hb := B.bytes
  have hr := B.returns
  have hlocks := B.notSynchronized
  have hts : ∀ w ∈ wsU, w.before _ s = true := fun w h => atoms_spec (ws := us_X7_hatched) B.pre w (List.mem_cons_of_mem _ h)
  have hown : s.vm.findClass RX7 = some m.cls := findClass_of_methodNamed B.named
  have hC : Cx p m c cX7_hatched 3 s _ wsU RX7 D cy := ⟨⟨hx, hb, hml, hown, hts⟩, hK, hN⟩
  have hW : Wd D cy 27 shM ad A s.heap σ s.heap [] := ⟨hP, hD, va_S.rf, hA⟩
  have hl := lv_entry ([.ref (ad 0), .int p0]) (n := 3) (Nat.le_of_ble_eq_true rfl)
  rw [lg_entry_eq]
  generalize (lg_sl ([.ref (ad 0), .int p0]) ++ List.replicate (3 - (lg_sl ([.ref (ad 0), .int p0])).length) Slot.unset).toArray = ls at hl ⊢
  have hl : lv_has ls 3 [(0, .ref (ad 0)), (1, .int p0)] := hl
  refine lv_aload_n hx hb dX7_hatched_0 rfl (lv_at hl 0 rfl) ?_
  refine lv_iload_n hx hb dX7_hatched_1 rfl (lv_at hl 1 rfl) ?_
  replace h := bd h
  obtain ⟨r1, hc, h⟩ := h
  refine r_calli hW (va_runV (As := [.int p0]) (rest := []) hC.1 (c_X7_isEgg l D cy ad A _ _ _ hc) (cwV 1 hts (gdV wd_307 wd_308 wd_309 wd_300 wd_306) rfl rfl rfl (by decide +kernel) ⟨Nat.le_of_ble_eq_true rfl, Nat.le_of_ble_eq_true rfl⟩) (r_preV hC hW (Nat.le_of_ble_eq_true rfl) rfl rfl) rfl rfl hl.1 rfl (lv_room (Nat.le_of_ble_eq_true rfl)) dX7_hatched_2 ⟨Nat.zero_le _, Nat.zero_le _⟩) (fun H locs hWn => ?_)
  replace hW := hWn
  clear hWn hc
  refine lv_if_ne (tgt := 10) hx hb dX7_hatched_5 (by decide) (fun cq => ?_) (fun cq => ?_)
  · replace h := tn cq h
    refine lv_aload_n hx hb dX7_hatched_10 rfl (lv_at hl 0 rfl) ?_
    replace h := ob h
    obtain ⟨r2, σ3, hc, h⟩ := h
    refine r_calli hW (va_runV (As := []) (rest := []) hC.1 (c_X7_refusal l D cy ad A N _ _ _ hc) (cwV 0 hts (gdV wd_417 wd_418 wd_419 wd_300 wd_416) rfl rfl rfl (by decide +kernel) ⟨Nat.le_of_ble_eq_true rfl, Nat.le_of_ble_eq_true rfl⟩) (r_preV hC hW (Nat.le_of_ble_eq_true rfl) rfl rfl) rfl rfl hl.1 rfl (lv_room (Nat.le_of_ble_eq_true rfl)) dX7_hatched_11 ⟨Nat.zero_le _, Nat.zero_le _⟩) (fun H locs hWn => ?_)
    replace hW := hWn
    clear hWn hc
    refine lv_istore_n (lv' := [(2, .int r2), (0, .ref (ad 0)), (1, .int p0)]) hx hb dX7_hatched_14 rfl hl (by decide) rfl (fun ls hln => ?_)
    replace hl := hln
    clear hln
    refine lv_iload_n hx hb dX7_hatched_15 rfl (lv_at hl 0 rfl) ?_
    refine lv_bipush (v := (-6)) hx hb dX7_hatched_16 (by decide) ?_
    refine lv_icmp_eq (tgt := 25) hx hb dX7_hatched_18 (by decide) (fun cq => ?_) (fun cq => ?_)
    · replace h := tp cq h
      refine lv_aload_n hx hb dX7_hatched_25 rfl (lv_at hl 1 rfl) ?_
      refine r_getr hC hW 25 (Nat.le_of_ble_eq_true rfl) rfl rfl rfl (by decide) inUX7 (hts _ wd_327) rfl dX7_hatched_26 ?_
      refine lv_iload_n hx hb dX7_hatched_29 rfl (lv_at hl 2 rfl) ?_
      replace h := og h
      obtain ⟨hi, h⟩ := h
      refine r_ald hC hW (Nat.le_of_ble_eq_true rfl) rfl hi dX7_hatched_30 ?_
      exact r_iretW hC hr hlocks h hW dX7_hatched_31
    · replace h := tn cq h
      refine lv_iload_n hx hb dX7_hatched_21 rfl (lv_at hl 0 rfl) ?_
      refine lv_goto (tgt := 31) hx hb dX7_hatched_22 (by decide) ?_
      exact r_iretW hC hr hlocks h hW dX7_hatched_31
  · replace h := tp cq h
    refine lv_iconst (v := (-1)) hx hb dX7_hatched_8 (by decide) ?_
    exact r_iretW hC hr hlocks h hW dX7_hatched_9
set_option maxHeartbeats 4000000 in
set_option maxRecDepth 100000 in
theorem c_X7_power (l : Launch) (D : va_G) (cy : ClassId × ClassId) (ad : Nat → Nat) (A : Nat → Prop) (N : Nat) (p0 : Int32) (p1 : Int32) (σ : Hp) (r : Int64) (h : t_X7_power N p0 p1 = some r) : Cl l yX7_power us_X7_power ({ frames := 0, cells := 0, slots := 0, locals := 0 } : Room) D cy 27 shM ad A [.int p0, .int p1] σ r σ := by
  unfold t_X7_power at h
  refine Met.ofW (cc := cX7_power) (maxL := 5) (ret := (some .long)) (by decide) rfl ?_
  intro p e s m args below meth c s₁ B hml hv
  obtain ⟨rfl, hP, hK, hD, hA, hN⟩ := hv
  have hx := B.exec
  have hb := B.bytes
  have hr := B.returns
  have hlocks := B.notSynchronized
  have hts : ∀ w ∈ wsU, w.before _ s = true := fun w h => atoms_spec (ws := us_X7_power) B.pre w (List.mem_cons_of_mem _ h)
  have hown : s.vm.findClass RX7 = some m.cls := findClass_of_methodNamed B.named
  have hC : Cx p m c cX7_power 5 s _ wsU RX7 D cy := ⟨⟨hx, hb, hml, hown, hts⟩, hK, hN⟩
  have hW : Wd D cy 27 shM ad A s.heap σ s.heap [] := ⟨hP, hD, va_S.rf, hA⟩
  have hl := lv_entry ([.int p0, .int p1]) (n := 5) (Nat.le_of_ble_eq_true rfl)
  rw [lg_entry_eq]
  generalize (lg_sl ([.int p0, .int p1]) ++ List.replicate (5 - (lg_sl ([.int p0, .int p1])).length) Slot.unset).toArray = ls at hl ⊢
  have hl : lv_has ls 5 [(0, .int p0), (1, .int p1)] := hl
  have L5 : ∀ (f : Nat) (v0 : Int32) (v1 : Int32) (v2 : Int64) (v4 : Int32), t_X7_power_5 N f v0 v1 v2 v4 = some r → ∀ (H : Heap) (locs : List Loc), Wd D cy 27 shM ad A s.heap σ H locs → ∀ ls : Array Slot, lv_has ls 5 [(0, .int v0), (1, .int v1), (2, .long v2), (4, .int v4)] → Gl p l e us_X7_power ({ frames := 0, cells := 0, slots := 0, locals := 0 } : Room) s m [.int p0, .int p1] below meth c D cy 27 shM ad A r σ H locs (F0 m 5 ls []) := by
    intro f
    unfold t_X7_power_5
    refine loopG_ind (fun (T : Int32 → Int32 → Int64 → Int32 → Option Int64) => ∀ (v0 : Int32) (v1 : Int32) (v2 : Int64) (v4 : Int32), T v0 v1 v2 v4 = some r → ∀ (H : Heap) (locs : List Loc), Wd D cy 27 shM ad A s.heap σ H locs → ∀ ls : Array Slot, lv_has ls 5 [(0, .int v0), (1, .int v1), (2, .long v2), (4, .int v4)] → Gl p l e us_X7_power ({ frames := 0, cells := 0, slots := 0, locals := 0 } : Room) s m [.int p0, .int p1] below meth c D cy 27 shM ad A r σ H locs (F0 m 5 ls [])) ?_ ?_ f
    · intro v0 v1 v2 v4 h; exact absurd h (by simp)
    · intro k5 ih5
      intro v0 v1 v2 v4 h H locs hW ls hl
      refine lv_iload hx hb dX7_power_5 (lv_at hl 3 rfl) ?_
      refine lv_iload_n hx hb dX7_power_7 rfl (lv_at hl 1 rfl) ?_
      refine lv_icmp_ge (tgt := 22) hx hb dX7_power_8 (by decide) (fun cq => ?_) (fun cq => ?_)
      · replace h := tp cq h
        refine lv_lload_n hx hb dX7_power_22 rfl (lv_at hl 2 rfl) ?_
        exact r_lretP hC hr hlocks h hW dX7_power_23
      · replace h := tn cq h
        refine lv_lload_n hx hb dX7_power_11 rfl (lv_at hl 2 rfl) ?_
        refine lv_iload_n hx hb dX7_power_12 rfl (lv_at hl 0 rfl) ?_
        refine lv_i2l hx hb dX7_power_13 rfl ?_
        refine lv_lmul hx hb dX7_power_14 ?_
        replace h := bx h
        obtain ⟨x1, ex1, h⟩ := h
        refine topel ex1 ?_
        clear ex1
        refine lv_lstore_n (lv' := [(2, .long x1), (0, .int v0), (1, .int v1), (4, .int v4)]) hx hb dX7_power_15 rfl hl (by decide) rfl (fun ls hln => ?_)
        replace hl := hln
        clear hln
        replace h := bx h
        obtain ⟨x2, ex2, h⟩ := h
        refine lv_iinc (v := x2) (lv' := [(4, .int x2), (2, .long x1), (0, .int v0), (1, .int v1)]) hx hb dX7_power_16 hl (k := 3) rfl (by rw [ex2]; rfl) (by decide) rfl (fun ls hln => ?_)
        replace hl := hln
        clear hln ex2
        refine lv_goto (tgt := 5) hx hb dX7_power_19 (by decide) ?_
        exact ih5 _ _ _ _ h _ _ hW _ (lv_sub hl [2, 3, 1, 0] rfl)
  refine lv_lconst (v := 1) hx hb dX7_power_0 (by decide) ?_
  refine lv_lstore_n (lv' := [(2, .long 1), (0, .int p0), (1, .int p1)]) hx hb dX7_power_1 rfl hl (by decide) rfl (fun ls hln => ?_)
  replace hl := hln
  clear hln
  refine lv_iconst (v := 0) hx hb dX7_power_2 (by decide) ?_
  refine lv_istore (lv' := [(4, .int 0), (2, .long 1), (0, .int p0), (1, .int p1)]) hx hb dX7_power_3 hl (by decide) rfl (fun ls hln => ?_)
  replace hl := hln
  clear hln
  exact L5 _ _ _ _ _ h _ _ hW _ (lv_sub hl [2, 3, 1, 0] rfl)
set_option maxHeartbeats 4000000 in
set_option maxRecDepth 100000 in
theorem c_X7_lowest (l : Launch) (D : va_G) (cy : ClassId × ClassId) (ad : Nat → Nat) (A : Nat → Prop) (N : Nat) (p0 : Int64) (p1 : Int64) (p2 : Int32) (σ : Hp) (r : Int64) (h : t_X7_lowest N p0 p1 p2 = some r) : Cl l yX7_lowest us_X7_lowest ({ frames := 0, cells := 0, slots := 0, locals := 0 } : Room) D cy 27 shM ad A [.long p0, .long p1, .int p2] σ r σ := by
  unfold t_X7_lowest at h
  refine Met.ofW (cc := cX7_lowest) (maxL := 11) (ret := (some .long)) (by decide) rfl ?_
  intro p e s m args below meth c s₁ B hml hv
  obtain ⟨rfl, hP, hK, hD, hA, hN⟩ := hv
  have hx := B.exec
  have hb := B.bytes
  have hr := B.returns
  have hlocks := B.notSynchronized
  have hts : ∀ w ∈ wsU, w.before _ s = true := fun w h => atoms_spec (ws := us_X7_lowest) B.pre w (List.mem_cons_of_mem _ h)
  have hown : s.vm.findClass RX7 = some m.cls := findClass_of_methodNamed B.named
  have hC : Cx p m c cX7_lowest 11 s _ wsU RX7 D cy := ⟨⟨hx, hb, hml, hown, hts⟩, hK, hN⟩
  have hW : Wd D cy 27 shM ad A s.heap σ s.heap [] := ⟨hP, hD, va_S.rf, hA⟩
  have hl := lv_entry ([.long p0, .long p1, .int p2]) (n := 11) (Nat.le_of_ble_eq_true rfl)
  rw [lg_entry_eq]
  generalize (lg_sl ([.long p0, .long p1, .int p2]) ++ List.replicate (11 - (lg_sl ([.long p0, .long p1, .int p2])).length) Slot.unset).toArray = ls at hl ⊢
  have hl : lv_has ls 11 [(0, .long p0), (2, .long p1), (4, .int p2)] := hl
  have L6 : ∀ (f : Nat) (v0 : Int64) (v2 : Int64) (v4 : Int32) (v5 : Int64) (v7 : Int64), t_X7_lowest_6 N f v0 v2 v4 v5 v7 = some r → ∀ (H : Heap) (locs : List Loc), Wd D cy 27 shM ad A s.heap σ H locs → ∀ ls : Array Slot, lv_has ls 11 [(0, .long v0), (2, .long v2), (4, .int v4), (5, .long v5), (7, .long v7)] → Gl p l e us_X7_lowest ({ frames := 0, cells := 0, slots := 0, locals := 0 } : Room) s m [.long p0, .long p1, .int p2] below meth c D cy 27 shM ad A r σ H locs (F0 m 6 ls []) := by
    intro f
    unfold t_X7_lowest_6
    refine loopG_ind (fun (T : Int64 → Int64 → Int32 → Int64 → Int64 → Option Int64) => ∀ (v0 : Int64) (v2 : Int64) (v4 : Int32) (v5 : Int64) (v7 : Int64), T v0 v2 v4 v5 v7 = some r → ∀ (H : Heap) (locs : List Loc), Wd D cy 27 shM ad A s.heap σ H locs → ∀ ls : Array Slot, lv_has ls 11 [(0, .long v0), (2, .long v2), (4, .int v4), (5, .long v5), (7, .long v7)] → Gl p l e us_X7_lowest ({ frames := 0, cells := 0, slots := 0, locals := 0 } : Room) s m [.long p0, .long p1, .int p2] below meth c D cy 27 shM ad A r σ H locs (F0 m 6 ls [])) ?_ ?_ f
    · intro v0 v2 v4 v5 v7 h; exact absurd h (by simp)
    · intro k6 ih6
      intro v0 v2 v4 v5 v7 h H locs hW ls hl
      refine lv_lload hx hb dX7_lowest_6 (lv_at hl 4 rfl) ?_
      refine lv_lconst (v := 0) hx hb dX7_lowest_8 (by decide) ?_
      refine W.lcmp hx hb dX7_lowest_9 ?_
      refine lv_if_eq (tgt := 31) hx hb dX7_lowest_10 (by decide) (fun cq => ?_) (fun cq => ?_)
      · replace h := tp cq h
        refine lv_iload hx hb dX7_lowest_31 (lv_at hl 2 rfl) ?_
        refine lv_if_ne (tgt := 43) hx hb dX7_lowest_33 (by decide) (fun cq => ?_) (fun cq => ?_)
        · replace h := tn cq h
          refine lv_lload_n hx hb dX7_lowest_43 rfl (lv_at hl 1 rfl) ?_
          refine lv_lload hx hb dX7_lowest_44 (lv_at hl 3 rfl) ?_
          replace h := ol h
          obtain ⟨hnz, h⟩ := h
          refine lv_ldiv hx hb dX7_lowest_46 hnz ?_
          exact r_lretP hC hr hlocks h hW dX7_lowest_47
        · replace h := tp cq h
          refine lv_lload_n hx hb dX7_lowest_36 rfl (lv_at hl 0 rfl) ?_
          refine lv_lload hx hb dX7_lowest_37 (lv_at hl 3 rfl) ?_
          replace h := ol h
          obtain ⟨hnz, h⟩ := h
          refine lv_ldiv hx hb dX7_lowest_39 hnz ?_
          refine lv_goto (tgt := 47) hx hb dX7_lowest_40 (by decide) ?_
          exact r_lretP hC hr hlocks h hW dX7_lowest_47
      · replace h := tn cq h
        refine lv_lload hx hb dX7_lowest_13 (lv_at hl 3 rfl) ?_
        refine lv_lload hx hb dX7_lowest_15 (lv_at hl 4 rfl) ?_
        replace h := ol h
        obtain ⟨hnz, h⟩ := h
        refine lv_lrem hx hb dX7_lowest_17 hnz ?_
        replace h := bx h
        obtain ⟨x1, ex1, h⟩ := h
        refine topel ex1 ?_
        clear ex1
        refine lv_lstore (lv' := [(9, .long x1), (0, .long v0), (2, .long v2), (4, .int v4), (5, .long v5), (7, .long v7)]) hx hb dX7_lowest_18 hl (by decide) rfl (fun ls hln => ?_)
        replace hl := hln
        clear hln
        refine lv_lload hx hb dX7_lowest_20 (lv_at hl 5 rfl) ?_
        refine lv_lstore (lv' := [(5, .long v7), (9, .long x1), (0, .long v0), (2, .long v2), (4, .int v4), (7, .long v7)]) hx hb dX7_lowest_22 hl (by decide) rfl (fun ls hln => ?_)
        replace hl := hln
        clear hln
        refine lv_lload hx hb dX7_lowest_24 (lv_at hl 1 rfl) ?_
        refine lv_lstore (lv' := [(7, .long x1), (5, .long v7), (9, .long x1), (0, .long v0), (2, .long v2), (4, .int v4)]) hx hb dX7_lowest_26 hl (by decide) rfl (fun ls hln => ?_)
        replace hl := hln
        clear hln
        refine lv_goto (tgt := 6) hx hb dX7_lowest_28 (by decide) ?_
        exact ih6 _ _ _ _ _ h _ _ hW _ (lv_sub hl [3, 4, 5, 1, 0] rfl)
  refine lv_lload_n hx hb dX7_lowest_0 rfl (lv_at hl 1 rfl) ?_
  refine lv_lstore (lv' := [(5, .long p1), (0, .long p0), (2, .long p1), (4, .int p2)]) hx hb dX7_lowest_1 hl (by decide) rfl (fun ls hln => ?_)
  replace hl := hln
  clear hln
  refine lv_lload_n hx hb dX7_lowest_3 rfl (lv_at hl 1 rfl) ?_
  refine lv_lstore (lv' := [(7, .long p0), (5, .long p1), (0, .long p0), (2, .long p1), (4, .int p2)]) hx hb dX7_lowest_4 hl (by decide) rfl (fun ls hln => ?_)
  replace hl := hln
  clear hln
  exact L6 _ _ _ _ _ _ h _ _ hW _ (lv_sub hl [2, 3, 4, 1, 0] rfl)
