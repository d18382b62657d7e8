set_option maxHeartbeats 4000000 in
set_option maxRecDepth 100000 in
theorem c_X7_judge (l : Launch) (D : va_G) (cy : ClassId × ClassId) (ad : Nat → Nat) (A : Nat → Prop) (N : Nat) (p0 : Int32) (σ : Hp) (r : Int32) (σ' : Hp) (h : t_X7_judge N p0 σ = some (r, σ')) : Ci l yX7_judge us_X7_judge ({ frames := 4, cells := 0, slots := 0, locals := 93 } : Room) D cy 27 shM ad A [.ref (ad 0), .int p0] σ r σ' := by
  unfold t_X7_judge at h
  refine Met.ofW (cc := cX7_judge) (maxL := 3) (ret := (some .int)) (by decide) rfl ?_
  intro p e s m args below meth c s₁ B hml hv
  obtain ⟨rfl, hP, hK, hD, hA, hN⟩ := hv
  have hx := B.exec
  have hb := B.bytes
  have hr := B.returns
  have hlocks := B.notSynchronized
  have hts : ∀ w ∈ wsU, w.before _ s = true := fun w h => atoms_spec (ws := us_X7_judge) B.pre w (List.mem_cons_of_mem _ h)
  have hown : s.vm.findClass RX7 = some m.cls := findClass_of_methodNamed B.named
  have hC : Cx p m c cX7_judge 3 s _ wsU RX7 D cy := ⟨⟨hx, hb, hml, hown, hts⟩, hK, hN⟩
  have hW : Wd D cy 27 shM ad A s.heap σ s.heap [] := ⟨hP, hD, va_S.rf, hA⟩
  have hl := lv_entry ([.ref (ad 0), .int p0]) (n := 3) (Nat.le_of_ble_eq_true rfl)
  rw [lg_entry_eq]
  generalize (lg_sl ([.ref (ad 0), .int p0]) ++ List.replicate (3 - (lg_sl ([.ref (ad 0), .int p0])).length) Slot.unset).toArray = ls at hl ⊢
  have hl : lv_has ls 3 [(0, .ref (ad 0)), (1, .int p0)] := hl
  have J39 : ∀ (v1 : Int32) (σ : Hp), t_X7_judge_39 N v1 σ = some (r, σ') → ∀ (H : Heap) (locs : List Loc), Wd D cy 27 shM ad A s.heap σ H locs → ∀ ls : Array Slot, lv_has ls 3 [(0, .ref (ad 0)), (1, .int v1)] → Gi p l e us_X7_judge ({ frames := 4, cells := 0, slots := 0, locals := 93 } : Room) s m [.ref (ad 0), .int p0] below meth c D cy 27 shM ad A r σ' H locs (F0 m 39 ls []) := by
    intro v1 σ h H locs hW ls hl
    unfold t_X7_judge_39 at h
    refine lv_iload_n hx hb dX7_judge_39 rfl (lv_at hl 1 rfl) ?_
    refine lv_if_ne (tgt := 50) hx hb dX7_judge_40 (by decide) (fun cq => ?_) (fun cq => ?_)
    · replace h := tn cq h
      refine lv_iload_n hx hb dX7_judge_50 rfl (lv_at hl 1 rfl) ?_
      refine lv_iconst (v := 1) hx hb dX7_judge_51 (by decide) ?_
      refine lv_icmp_ne (tgt := 62) hx hb dX7_judge_52 (by decide) (fun cq => ?_) (fun cq => ?_)
      · replace h := tn cq h
        refine lv_iload_n hx hb dX7_judge_62 rfl (lv_at hl 1 rfl) ?_
        refine lv_iconst (v := 2) hx hb dX7_judge_63 (by decide) ?_
        refine lv_icmp_ne (tgt := 74) hx hb dX7_judge_64 (by decide) (fun cq => ?_) (fun cq => ?_)
        · replace h := tn cq h
          refine lv_aload_n hx hb dX7_judge_74 rfl (lv_at hl 0 rfl) ?_
          refine r_geti hC hW 24 (Nat.le_of_ble_eq_true rfl) rfl rfl rfl (by decide) inUX7 (hts _ wd_326) rfl dX7_judge_75 ?_
          exact r_iretW hC hr hlocks h hW dX7_judge_78
        · replace h := tp cq h
          refine lv_aload_n hx hb dX7_judge_67 rfl (lv_at hl 0 rfl) ?_
          refine r_geti hC hW 23 (Nat.le_of_ble_eq_true rfl) rfl rfl rfl (by decide) inUX7 (hts _ wd_328) rfl dX7_judge_68 ?_
          refine lv_goto (tgt := 78) hx hb dX7_judge_71 (by decide) ?_
          exact r_iretW hC hr hlocks h hW dX7_judge_78
      · replace h := tp cq h
        refine lv_aload_n hx hb dX7_judge_55 rfl (lv_at hl 0 rfl) ?_
        refine r_geti hC hW 27 (Nat.le_of_ble_eq_true rfl) rfl rfl rfl (by decide) inUX7 (hts _ wd_333) rfl dX7_judge_56 ?_
        refine lv_goto (tgt := 78) hx hb dX7_judge_59 (by decide) ?_
        exact r_iretW hC hr hlocks h hW dX7_judge_78
    · replace h := tp cq h
      refine lv_aload_n hx hb dX7_judge_43 rfl (lv_at hl 0 rfl) ?_
      refine r_geti hC hW 26 (Nat.le_of_ble_eq_true rfl) rfl rfl rfl (by decide) inUX7 (hts _ wd_338) rfl dX7_judge_44 ?_
      refine lv_goto (tgt := 78) hx hb dX7_judge_47 (by decide) ?_
      exact r_iretW hC hr hlocks h hW dX7_judge_78
  refine lv_iload_n hx hb dX7_judge_0 rfl (lv_at hl 1 rfl) ?_
  refine lv_i2l hx hb dX7_judge_1 rfl ?_
  refine lv_lconst (v := 0) hx hb dX7_judge_2 (by decide) ?_
  refine lv_ldc2 hx hb hown (hts _ wd_420) dX7_judge_3 ?_
  replace h := bd h
  obtain ⟨r1, hc, h⟩ := h
  refine r_calli hW (va_runS (As := [.long (p0.toInt64), .long 0, .long (3)]) (rest := []) hC.1 (c_X7_in l D cy ad A _ _ _ _ _ hc) (va_cwS 3 hts (gdS wd_298 wd_299 wd_300 wd_297) rfl rfl rfl (by decide +kernel) ⟨Nat.le_of_ble_eq_true rfl, Nat.le_of_ble_eq_true rfl⟩) (r_preS hC hW) rfl rfl hl.1 rfl (lv_room (Nat.le_of_ble_eq_true rfl)) dX7_judge_6 ⟨Nat.zero_le _, Nat.zero_le _⟩) (fun H locs hWn => ?_)
  replace hW := hWn
  clear hWn hc
  refine lv_if_ne (tgt := 15) hx hb dX7_judge_9 (by decide) (fun cq => ?_) (fun cq => ?_)
  · replace h := tn cq h
    refine lv_aload_n hx hb dX7_judge_15 rfl (lv_at hl 0 rfl) ?_
    replace h := ob h
    obtain ⟨r2, σ3, hc, h⟩ := h
    refine r_calli hW (va_runV (As := []) (rest := []) hC.1 (c_X7_refusal l D cy ad A N _ _ _ hc) (cwV 0 hts (gdV wd_417 wd_418 wd_419 wd_300 wd_416) rfl rfl rfl (by decide +kernel) ⟨Nat.le_of_ble_eq_true rfl, Nat.le_of_ble_eq_true rfl⟩) (r_preV hC hW (Nat.le_of_ble_eq_true rfl) rfl rfl) rfl rfl hl.1 rfl (lv_room (Nat.le_of_ble_eq_true rfl)) dX7_judge_16 ⟨Nat.zero_le _, Nat.zero_le _⟩) (fun H locs hWn => ?_)
    replace hW := hWn
    clear hWn hc
    refine lv_istore_n (lv' := [(2, .int r2), (0, .ref (ad 0)), (1, .int p0)]) hx hb dX7_judge_19 rfl hl (by decide) rfl (fun ls hln => ?_)
    replace hl := hln
    clear hln
    refine lv_iload_n hx hb dX7_judge_20 rfl (lv_at hl 0 rfl) ?_
    refine lv_bipush (v := (-5)) hx hb dX7_judge_21 (by decide) ?_
    refine lv_icmp_eq (tgt := 37) hx hb dX7_judge_23 (by decide) (fun cq => ?_) (fun cq => ?_)
    · replace h := tp cq h
      refine lv_iload_n hx hb dX7_judge_37 rfl (lv_at hl 0 rfl) ?_
      exact r_iretW hC hr hlocks h hW dX7_judge_38
    · replace h := tn cq h
      refine lv_iload_n hx hb dX7_judge_26 rfl (lv_at hl 2 rfl) ?_
      refine lv_iconst (v := 1) hx hb dX7_judge_27 (by decide) ?_
      refine lv_icmp_le (tgt := 39) hx hb dX7_judge_28 (by decide) (fun cq => ?_) (fun cq => ?_)
      · replace h := tp cq h
        exact J39 _ _ h _ _ hW _ (lv_sub hl [1, 2] rfl)
      · replace h := tn cq h
        refine lv_iload_n hx hb dX7_judge_31 rfl (lv_at hl 0 rfl) ?_
        refine lv_bipush (v := (-3)) hx hb dX7_judge_32 (by decide) ?_
        refine lv_icmp_ne (tgt := 39) hx hb dX7_judge_34 (by decide) (fun cq => ?_) (fun cq => ?_)
        · replace h := tn cq h
          exact J39 _ _ h _ _ hW _ (lv_sub hl [1, 2] rfl)
        · replace h := tp cq h
          refine lv_iload_n hx hb dX7_judge_37 rfl (lv_at hl 0 rfl) ?_
          exact r_iretW hC hr hlocks h hW dX7_judge_38
  · replace h := tp cq h
    refine lv_bipush (v := (-2)) hx hb dX7_judge_12 (by decide) ?_
    exact r_iretW hC hr hlocks h hW dX7_judge_14
set_option maxHeartbeats 4000000 in
set_option maxRecDepth 100000 in
theorem c_X7_ones (l : Launch) (D : va_G) (cy : ClassId × ClassId) (ad : Nat → Nat) (A : Nat → Prop) (N : Nat) (p0 : Int32) (σ : Hp) (r : Int32) (h : t_X7_ones N p0 = some r) : Ci l yX7_ones us_X7_ones ({ frames := 0, cells := 0, slots := 0, locals := 0 } : Room) D cy 27 shM ad A [.int p0] σ r σ := by
  unfold t_X7_ones at h
  refine Met.ofW (cc := cX7_ones) (maxL := 3) (ret := (some .int)) (by decide) rfl ?_
  intro p e s m args below meth c s₁ B hml hv
  obtain ⟨rfl, hP, hK, hD, hA, hN⟩ := hv
  have hx := B.exec
  have hb := B.bytes
  have hr := B.returns
  have hlocks := B.notSynchronized
  have hts : ∀ w ∈ wsU, w.before _ s = true := fun w h => atoms_spec (ws := us_X7_ones) B.pre w (List.mem_cons_of_mem _ h)
  have hown : s.vm.findClass RX7 = some m.cls := findClass_of_methodNamed B.named
  have hC : Cx p m c cX7_ones 3 s _ wsU RX7 D cy := ⟨⟨hx, hb, hml, hown, hts⟩, hK, hN⟩
  have hW : Wd D cy 27 shM ad A s.heap σ s.heap [] := ⟨hP, hD, va_S.rf, hA⟩
  have hl := lv_entry ([.int p0]) (n := 3) (Nat.le_of_ble_eq_true rfl)
  rw [lg_entry_eq]
  generalize (lg_sl ([.int p0]) ++ List.replicate (3 - (lg_sl ([.int p0])).length) Slot.unset).toArray = ls at hl ⊢
  have hl : lv_has ls 3 [(0, .int p0)] := hl
  have L4 : ∀ (f : Nat) (v1 : Int32) (v2 : Int32), t_X7_ones_4 N f v1 v2 = some r → ∀ (H : Heap) (locs : List Loc), Wd D cy 27 shM ad A s.heap σ H locs → ∀ ls : Array Slot, lv_has ls 3 [(1, .int v1), (2, .int v2)] → Gi p l e us_X7_ones ({ frames := 0, cells := 0, slots := 0, locals := 0 } : Room) s m [.int p0] below meth c D cy 27 shM ad A r σ H locs (F0 m 4 ls []) := by
    intro f
    unfold t_X7_ones_4
    refine loopG_ind (fun (T : Int32 → Int32 → Option Int32) => ∀ (v1 : Int32) (v2 : Int32), T v1 v2 = some r → ∀ (H : Heap) (locs : List Loc), Wd D cy 27 shM ad A s.heap σ H locs → ∀ ls : Array Slot, lv_has ls 3 [(1, .int v1), (2, .int v2)] → Gi p l e us_X7_ones ({ frames := 0, cells := 0, slots := 0, locals := 0 } : Room) s m [.int p0] below meth c D cy 27 shM ad A r σ H locs (F0 m 4 ls [])) ?_ ?_ f
    · intro v1 v2 h; exact absurd h (by simp)
    · intro k4 ih4
      intro v1 v2 h H locs hW ls hl
      refine lv_iload_n hx hb dX7_ones_4 rfl (lv_at hl 1 rfl) ?_
      refine lv_if_eq (tgt := 20) hx hb dX7_ones_5 (by decide) (fun cq => ?_) (fun cq => ?_)
      · replace h := tp cq h
        refine lv_iload_n hx hb dX7_ones_20 rfl (lv_at hl 0 rfl) ?_
        exact r_iretP hC hr hlocks h hW dX7_ones_21
      · replace h := tn cq h
        replace h := bx h
        obtain ⟨x1, ex1, h⟩ := h
        refine lv_iinc (v := x1) (lv' := [(1, .int x1), (2, .int v2)]) hx hb dX7_ones_8 hl (k := 0) rfl (by rw [ex1]; rfl) (by decide) rfl (fun ls hln => ?_)
        replace hl := hln
        clear hln ex1
        refine lv_iload_n hx hb dX7_ones_11 rfl (lv_at hl 1 rfl) ?_
        refine lv_iload_n hx hb dX7_ones_12 rfl (lv_at hl 1 rfl) ?_
        refine lv_iconst (v := 1) hx hb dX7_ones_13 (by decide) ?_
        refine lv_isub hx hb dX7_ones_14 ?_
        refine lv_iand hx hb dX7_ones_15 ?_
        replace h := bx h
        obtain ⟨x2, ex2, h⟩ := h
        refine tope ex2 ?_
        clear ex2
        refine lv_istore_n (lv' := [(2, .int x2), (1, .int x1)]) hx hb dX7_ones_16 rfl hl (by decide) rfl (fun ls hln => ?_)
        replace hl := hln
        clear hln
        refine lv_goto (tgt := 4) hx hb dX7_ones_17 (by decide) ?_
        exact ih4 _ _ h _ _ hW _ (lv_sub hl [1, 0] rfl)
  refine lv_iconst (v := 0) hx hb dX7_ones_0 (by decide) ?_
  refine lv_istore_n (lv' := [(1, .int 0), (0, .int p0)]) hx hb dX7_ones_1 rfl hl (by decide) rfl (fun ls hln => ?_)
  replace hl := hln
  clear hln
  refine lv_iload_n hx hb dX7_ones_2 rfl (lv_at hl 1 rfl) ?_
  refine lv_istore_n (lv' := [(2, .int p0), (1, .int 0), (0, .int p0)]) hx hb dX7_ones_3 rfl hl (by decide) rfl (fun ls hln => ?_)
  replace hl := hln
  clear hln
  exact L4 _ _ _ h _ _ hW _ (lv_sub hl [1, 0] rfl)
set_option maxHeartbeats 4000000 in
set_option maxRecDepth 100000 in
theorem c_X7_mend (l : Launch) (D : va_G) (cy : ClassId × ClassId) (ad : Nat → Nat) (A : Nat → Prop) (N : Nat) (p0 : Int32) (σ : Hp) (r : Int32) (h : t_X7_mend N p0 σ = some r) : Ci l yX7_mend us_X7_mend ({ frames := 1, cells := 0, slots := 0, locals := 25 } : Room) D cy 27 shM ad A [.ref (ad 0), .int p0] σ r σ := by
  unfold t_X7_mend at h
  refine Met.ofW (cc := cX7_mend) (maxL := 6) (ret := (some .int)) (by decide) rfl ?_
  intro p e s m args below meth c s₁ B hml hv
  obtain ⟨rfl, hP, hK, hD, hA, hN⟩ := hv
  have hx := B.exec
  have hb := B.bytes
  have hr := B.returns
  have hlocks := B.notSynchronized
  have hts : ∀ w ∈ wsU, w.before _ s = true := fun w h => atoms_spec (ws := us_X7_mend) B.pre w (List.mem_cons_of_mem _ h)
  have hown : s.vm.findClass RX7 = some m.cls := findClass_of_methodNamed B.named
  have hC : Cx p m c cX7_mend 6 s _ wsU RX7 D cy := ⟨⟨hx, hb, hml, hown, hts⟩, hK, hN⟩
  have hW : Wd D cy 27 shM ad A s.heap σ s.heap [] := ⟨hP, hD, va_S.rf, hA⟩
  have hl := lv_entry ([.ref (ad 0), .int p0]) (n := 6) (Nat.le_of_ble_eq_true rfl)
  rw [lg_entry_eq]
  generalize (lg_sl ([.ref (ad 0), .int p0]) ++ List.replicate (6 - (lg_sl ([.ref (ad 0), .int p0])).length) Slot.unset).toArray = ls at hl ⊢
  have hl : lv_has ls 6 [(0, .ref (ad 0)), (1, .int p0)] := hl
  have L25 : ∀ (f : Nat) (v1 : Int32) (v2 : Int32) (v3 : Int32) (v4 : Int32), t_X7_mend_25 N f v1 v2 v3 v4 σ = some r → ∀ (H : Heap) (locs : List Loc), Wd D cy 27 shM ad A s.heap σ H locs → ∀ ls : Array Slot, lv_has ls 6 [(0, .ref (ad 0)), (1, .int v1), (2, .int v2), (3, .int v3), (4, .int v4)] → Gi p l e us_X7_mend ({ frames := 1, cells := 0, slots := 0, locals := 25 } : Room) s m [.ref (ad 0), .int p0] below meth c D cy 27 shM ad A r σ H locs (F0 m 25 ls []) := by
    intro f
    unfold t_X7_mend_25
    refine loopG_ind (fun (T : Int32 → Int32 → Int32 → Int32 → Hp → Option Int32) => ∀ (v1 : Int32) (v2 : Int32) (v3 : Int32) (v4 : Int32), T v1 v2 v3 v4 σ = some r → ∀ (H : Heap) (locs : List Loc), Wd D cy 27 shM ad A s.heap σ H locs → ∀ ls : Array Slot, lv_has ls 6 [(0, .ref (ad 0)), (1, .int v1), (2, .int v2), (3, .int v3), (4, .int v4)] → Gi p l e us_X7_mend ({ frames := 1, cells := 0, slots := 0, locals := 25 } : Room) s m [.ref (ad 0), .int p0] below meth c D cy 27 shM ad A r σ H locs (F0 m 25 ls [])) ?_ ?_ f
    · intro v1 v2 v3 v4 h; exact absurd h (by simp)
    · intro k25 ih25
      have J84 : ∀ (v1 : Int32) (v2 : Int32) (v4 : Int32) (s0 : Int32), t_X7_mend_84 N k25 v1 v2 v4 s0 σ = some r → ∀ (H : Heap) (locs : List Loc), Wd D cy 27 shM ad A s.heap σ H locs → ∀ ls : Array Slot, lv_has ls 6 [(0, .ref (ad 0)), (1, .int v1), (2, .int v2), (4, .int v4)] → Gi p l e us_X7_mend ({ frames := 1, cells := 0, slots := 0, locals := 25 } : Room) s m [.ref (ad 0), .int p0] below meth c D cy 27 shM ad A r σ H locs (F0 m 84 ls [.int s0]) := by
        intro v1 v2 v4 s0 h H locs hW ls hl
        unfold t_X7_mend_84 at h
        refine lv_istore_n (lv' := [(3, .int s0), (0, .ref (ad 0)), (1, .int v1), (2, .int v2), (4, .int v4)]) hx hb dX7_mend_84 rfl hl (by decide) rfl (fun ls hln => ?_)
        replace hl := hln
        clear hln
        replace h := bx h
        obtain ⟨x1, ex1, h⟩ := h
        refine lv_iinc (v := x1) (lv' := [(4, .int x1), (3, .int s0), (0, .ref (ad 0)), (1, .int v1), (2, .int v2)]) hx hb dX7_mend_85 hl (k := 4) rfl (by rw [ex1]; rfl) (by decide) rfl (fun ls hln => ?_)
        replace hl := hln
        clear hln ex1
        refine lv_goto (tgt := 25) hx hb dX7_mend_88 (by decide) ?_
        exact ih25 _ _ _ _ h _ _ hW _ (lv_sub hl [2, 3, 4, 1, 0] rfl)
      have J79 : ∀ (v1 : Int32) (v2 : Int32) (v4 : Int32), t_X7_mend_79 N k25 v1 v2 v4 σ = some r → ∀ (H : Heap) (locs : List Loc), Wd D cy 27 shM ad A s.heap σ H locs → ∀ ls : Array Slot, lv_has ls 6 [(0, .ref (ad 0)), (1, .int v1), (2, .int v2), (4, .int v4)] → Gi p l e us_X7_mend ({ frames := 1, cells := 0, slots := 0, locals := 25 } : Room) s m [.ref (ad 0), .int p0] below meth c D cy 27 shM ad A r σ H locs (F0 m 79 ls []) := by
        intro v1 v2 v4 h H locs hW ls hl
        unfold t_X7_mend_79 at h
        refine lv_iconst (v := 1) hx hb dX7_mend_79 (by decide) ?_
        refine lv_goto (tgt := 84) hx hb dX7_mend_80 (by decide) ?_
        exact J84 _ _ _ _ h _ _ hW _ (lv_sub hl [0, 1, 2, 3] rfl)
      have J63 : ∀ (v1 : Int32) (v3 : Int32) (v4 : Int32) (v5 : Int32) (s0 : Int32) (s1 : Int32), t_X7_mend_63 N k25 v1 v3 v4 v5 s0 s1 σ = some r → ∀ (H : Heap) (locs : List Loc), Wd D cy 27 shM ad A s.heap σ H locs → ∀ ls : Array Slot, lv_has ls 6 [(0, .ref (ad 0)), (1, .int v1), (3, .int v3), (4, .int v4), (5, .int v5)] → Gi p l e us_X7_mend ({ frames := 1, cells := 0, slots := 0, locals := 25 } : Room) s m [.ref (ad 0), .int p0] below meth c D cy 27 shM ad A r σ H locs (F0 m 63 ls [.int s1, .int s0]) := by
        intro v1 v3 v4 v5 s0 s1 h H locs hW ls hl
        unfold t_X7_mend_63 at h
        refine lv_ior hx hb dX7_mend_63 ?_
        replace h := bx h
        obtain ⟨x2, ex2, h⟩ := h
        refine tope ex2 ?_
        clear ex2
        refine lv_istore_n (lv' := [(2, .int x2), (0, .ref (ad 0)), (1, .int v1), (3, .int v3), (4, .int v4), (5, .int v5)]) hx hb dX7_mend_64 rfl hl (by decide) rfl (fun ls hln => ?_)
        replace hl := hln
        clear hln
        refine lv_iload_n hx hb dX7_mend_65 rfl (lv_at hl 3 rfl) ?_
        refine lv_if_ne (tgt := 79) hx hb dX7_mend_66 (by decide) (fun cq => ?_) (fun cq => ?_)
        · replace h := tn cq h
          exact J79 _ _ _ h _ _ hW _ (lv_sub hl [1, 2, 0, 4] rfl)
        · replace h := tp cq h
          refine lv_aload_n hx hb dX7_mend_69 rfl (lv_at hl 1 rfl) ?_
          refine r_getr hC hW 5 (Nat.le_of_ble_eq_true rfl) rfl rfl rfl (by decide) inUX7 (hts _ wd_295) rfl dX7_mend_70 ?_
          refine lv_iload hx hb dX7_mend_73 (lv_at hl 5 rfl) ?_
          replace h := og h
          obtain ⟨hi, h⟩ := h
          refine r_ald hC hW (Nat.le_of_ble_eq_true rfl) rfl hi dX7_mend_75 ?_
          refine lv_if_ne (tgt := 83) hx hb dX7_mend_76 (by decide) (fun cq => ?_) (fun cq => ?_)
          · replace h := tn cq h
            refine lv_iconst (v := 0) hx hb dX7_mend_83 (by decide) ?_
            exact J84 _ _ _ _ h _ _ hW _ (lv_sub hl [1, 2, 0, 4] rfl)
          · replace h := tp cq h
            exact J79 _ _ _ h _ _ hW _ (lv_sub hl [1, 2, 0, 4] rfl)
      have J62 : ∀ (v1 : Int32) (v3 : Int32) (v4 : Int32) (v5 : Int32) (s0 : Int32), t_X7_mend_62 N k25 v1 v3 v4 v5 s0 σ = some r → ∀ (H : Heap) (locs : List Loc), Wd D cy 27 shM ad A s.heap σ H locs → ∀ ls : Array Slot, lv_has ls 6 [(0, .ref (ad 0)), (1, .int v1), (3, .int v3), (4, .int v4), (5, .int v5)] → Gi p l e us_X7_mend ({ frames := 1, cells := 0, slots := 0, locals := 25 } : Room) s m [.ref (ad 0), .int p0] below meth c D cy 27 shM ad A r σ H locs (F0 m 62 ls [.int s0]) := by
        intro v1 v3 v4 v5 s0 h H locs hW ls hl
        unfold t_X7_mend_62 at h
        refine lv_iconst (v := 0) hx hb dX7_mend_62 (by decide) ?_
        exact J63 _ _ _ _ _ _ h _ _ hW _ (lv_sub hl [0, 1, 2, 3, 4] rfl)
      intro v1 v2 v3 v4 h H locs hW ls hl
      refine lv_iload hx hb dX7_mend_25 (lv_at hl 4 rfl) ?_
      refine lv_if_lt (tgt := 91) hx hb dX7_mend_27 (by decide) (fun cq => ?_) (fun cq => ?_)
      · replace h := tp cq h
        refine lv_iload_n hx hb dX7_mend_91 rfl (lv_at hl 1 rfl) ?_
        refine lv_if_ne (tgt := 102) hx hb dX7_mend_92 (by decide) (fun cq => ?_) (fun cq => ?_)
        · replace h := tn cq h
          refine lv_iload_n hx hb dX7_mend_102 rfl (lv_at hl 2 rfl) ?_
          exact r_iretP hC hr hlocks h hW dX7_mend_103
        · replace h := tp cq h
          refine lv_iload_n hx hb dX7_mend_95 rfl (lv_at hl 2 rfl) ?_
          replace h := bd h
          obtain ⟨r3, hc, h⟩ := h
          refine r_calli hW (va_runS (As := [.int v2]) (rest := []) hC.1 (c_X7_ones l D cy ad A N _ _ _ hc) (va_cwS 1 hts (gdS wd_463 wd_464 wd_300 wd_462) rfl rfl rfl (by decide +kernel) ⟨Nat.le_of_ble_eq_true rfl, Nat.le_of_ble_eq_true rfl⟩) (r_preS hC hW) rfl rfl hl.1 rfl (lv_room (Nat.le_of_ble_eq_true rfl)) dX7_mend_96 ⟨Nat.zero_le _, Nat.zero_le _⟩) (fun H locs hWn => ?_)
          replace hW := hWn
          clear hWn hc
          refine lv_goto (tgt := 103) hx hb dX7_mend_99 (by decide) ?_
          exact r_iretP hC hr hlocks h hW dX7_mend_103
      · replace h := tn cq h
        refine lv_aload_n hx hb dX7_mend_30 rfl (lv_at hl 0 rfl) ?_
        refine r_getr hC hW 6 (Nat.le_of_ble_eq_true rfl) rfl rfl rfl (by decide) inUX7 (hts _ wd_399) rfl dX7_mend_31 ?_
        refine lv_iload hx hb dX7_mend_34 (lv_at hl 4 rfl) ?_
        replace h := og h
        obtain ⟨hi, h⟩ := h
        refine r_ald hC hW (Nat.le_of_ble_eq_true rfl) rfl hi dX7_mend_36 ?_
        replace h := bx h
        obtain ⟨x4, ex4, h⟩ := h
        refine tope ex4 ?_
        clear ex4
        refine lv_istore (lv' := [(5, .int x4), (0, .ref (ad 0)), (1, .int v1), (2, .int v2), (3, .int v3), (4, .int v4)]) hx hb dX7_mend_37 hl (by decide) rfl (fun ls hln => ?_)
        replace hl := hln
        clear hln
        refine lv_iload_n hx hb dX7_mend_39 rfl (lv_at hl 3 rfl) ?_
        refine lv_iload_n hx hb dX7_mend_40 rfl (lv_at hl 4 rfl) ?_
        refine lv_if_eq (tgt := 62) hx hb dX7_mend_41 (by decide) (fun cq => ?_) (fun cq => ?_)
        · replace h := tp cq h
          exact J62 _ _ _ _ _ h _ _ hW _ (lv_sub hl [1, 2, 4, 5, 0] rfl)
        · replace h := tn cq h
          refine lv_aload_n hx hb dX7_mend_44 rfl (lv_at hl 1 rfl) ?_
          refine r_getr hC hW 5 (Nat.le_of_ble_eq_true rfl) rfl rfl rfl (by decide) inUX7 (hts _ wd_295) rfl dX7_mend_45 ?_
          refine lv_iload hx hb dX7_mend_48 (lv_at hl 0 rfl) ?_
          replace h := og h
          obtain ⟨hi, h⟩ := h
          refine r_ald hC hW (Nat.le_of_ble_eq_true rfl) rfl hi dX7_mend_50 ?_
          refine lv_iconst (v := 2) hx hb dX7_mend_51 (by decide) ?_
          refine lv_icmp_ne (tgt := 62) hx hb dX7_mend_52 (by decide) (fun cq => ?_) (fun cq => ?_)
          · replace h := tn cq h
            exact J62 _ _ _ _ _ h _ _ hW _ (lv_sub hl [1, 2, 4, 5, 0] rfl)
          · replace h := tp cq h
            refine lv_iconst (v := 1) hx hb dX7_mend_55 (by decide) ?_
            refine lv_iload hx hb dX7_mend_56 (lv_at hl 0 rfl) ?_
            refine lv_ishl hx hb dX7_mend_58 ?_
            refine lv_goto (tgt := 63) hx hb dX7_mend_59 (by decide) ?_
            exact J63 _ _ _ _ _ _ h _ _ hW _ (lv_sub hl [1, 2, 4, 5, 0] rfl)
  refine lv_iload_n hx hb dX7_mend_0 rfl (lv_at hl 1 rfl) ?_
  refine lv_i2l hx hb dX7_mend_1 rfl ?_
  refine lv_lconst (v := 0) hx hb dX7_mend_2 (by decide) ?_
  refine lv_lconst (v := 1) hx hb dX7_mend_3 (by decide) ?_
  replace h := bd h
  obtain ⟨r5, hc, h⟩ := h
  refine r_calli hW (va_runS (As := [.long (p0.toInt64), .long 0, .long 1]) (rest := []) hC.1 (c_X7_in l D cy ad A _ _ _ _ _ hc) (va_cwS 3 hts (gdS wd_298 wd_299 wd_300 wd_297) rfl rfl rfl (by decide +kernel) ⟨Nat.le_of_ble_eq_true rfl, Nat.le_of_ble_eq_true rfl⟩) (r_preS hC hW) rfl rfl hl.1 rfl (lv_room (Nat.le_of_ble_eq_true rfl)) dX7_mend_4 ⟨Nat.zero_le _, Nat.zero_le _⟩) (fun H locs hWn => ?_)
  replace hW := hWn
  clear hWn hc
  refine lv_if_ne (tgt := 13) hx hb dX7_mend_7 (by decide) (fun cq => ?_) (fun cq => ?_)
  · replace h := tn cq h
    refine lv_iconst (v := 0) hx hb dX7_mend_13 (by decide) ?_
    refine lv_istore_n (lv' := [(2, .int 0), (0, .ref (ad 0)), (1, .int p0)]) hx hb dX7_mend_14 rfl hl (by decide) rfl (fun ls hln => ?_)
    replace hl := hln
    clear hln
    refine lv_iconst (v := 0) hx hb dX7_mend_15 (by decide) ?_
    refine lv_istore_n (lv' := [(3, .int 0), (2, .int 0), (0, .ref (ad 0)), (1, .int p0)]) hx hb dX7_mend_16 rfl hl (by decide) rfl (fun ls hln => ?_)
    replace hl := hln
    clear hln
    refine lv_aload_n hx hb dX7_mend_17 rfl (lv_at hl 2 rfl) ?_
    refine r_geti hC hW 0 (Nat.le_of_ble_eq_true rfl) rfl rfl rfl (by decide) inUX7 (hts _ wd_294) rfl dX7_mend_18 ?_
    refine lv_iconst (v := 1) hx hb dX7_mend_21 (by decide) ?_
    refine lv_isub hx hb dX7_mend_22 ?_
    replace h := bx h
    obtain ⟨x6, ex6, h⟩ := h
    refine tope ex6 ?_
    clear ex6
    refine lv_istore (lv' := [(4, .int x6), (3, .int 0), (2, .int 0), (0, .ref (ad 0)), (1, .int p0)]) hx hb dX7_mend_23 hl (by decide) rfl (fun ls hln => ?_)
    replace hl := hln
    clear hln
    exact L25 _ _ _ _ _ h _ _ hW _ (lv_sub hl [3, 4, 2, 1, 0] rfl)
  · replace h := tp cq h
    refine lv_bipush (v := (-2)) hx hb dX7_mend_10 (by decide) ?_
    exact r_iretP hC hr hlocks h hW dX7_mend_12
set_option maxHeartbeats 4000000 in
set_option maxRecDepth 100000 in
theorem c_X7_order (l : Launch) (D : va_G) (cy : ClassId × ClassId) (ad : Nat → Nat) (A : Nat → Prop) (N : Nat) (σ : Hp) (r : Int32) (σ' : Hp) (h : t_X7_order N σ = some (r, σ')) : Ci l yX7_order us_X7_order ({ frames := 3, cells := 0, slots := 0, locals := 69 } : Room) D cy 27 shM ad A [.ref (ad 0)] σ r σ' := by
  unfold t_X7_order at h
  refine Met.ofW (cc := cX7_order) (maxL := 2) (ret := (some .int)) (by decide) rfl ?_
  intro p e s m args below meth c s₁ B hml hv
  obtain ⟨rfl, hP, hK, hD, hA, hN⟩ := hv
  have hx := B.exec
  have hb := B.bytes
  have hr := B.returns
  have hlocks := B.notSynchronized
  have hts : ∀ w ∈ wsU, w.before _ s = true := fun w h => atoms_spec (ws := us_X7_order) B.pre w (List.mem_cons_of_mem _ h)
  have hown : s.vm.findClass RX7 = some m.cls := findClass_of_methodNamed B.named
  have hC : Cx p m c cX7_order 2 s _ wsU RX7 D cy := ⟨⟨hx, hb, hml, hown, hts⟩, hK, hN⟩
  have hW : Wd D cy 27 shM ad A s.heap σ s.heap [] := ⟨hP, hD, va_S.rf, hA⟩
  have hl := lv_entry ([.ref (ad 0)]) (n := 2) (Nat.le_of_ble_eq_true rfl)
  rw [lg_entry_eq]
  generalize (lg_sl ([.ref (ad 0)]) ++ List.replicate (2 - (lg_sl ([.ref (ad 0)])).length) Slot.unset).toArray = ls at hl ⊢
  have hl : lv_has ls 2 [(0, .ref (ad 0))] := hl
  have L22 : ∀ (f : Nat) (v1 : Int32) (σ : Hp), t_X7_order_22 N f v1 σ = some (r, σ') → ∀ (H : Heap) (locs : List Loc), Wd D cy 27 shM ad A s.heap σ H locs → ∀ ls : Array Slot, lv_has ls 2 [(0, .ref (ad 0)), (1, .int v1)] → Gi p l e us_X7_order ({ frames := 3, cells := 0, slots := 0, locals := 69 } : Room) s m [.ref (ad 0)] below meth c D cy 27 shM ad A r σ' H locs (F0 m 22 ls []) := by
    intro f
    unfold t_X7_order_22
    refine loopG_ind (fun (T : Int32 → Hp → Option (Int32 × Hp)) => ∀ (v1 : Int32) (σ : Hp), T v1 σ = some (r, σ') → ∀ (H : Heap) (locs : List Loc), Wd D cy 27 shM ad A s.heap σ H locs → ∀ ls : Array Slot, lv_has ls 2 [(0, .ref (ad 0)), (1, .int v1)] → Gi p l e us_X7_order ({ frames := 3, cells := 0, slots := 0, locals := 69 } : Room) s m [.ref (ad 0)] below meth c D cy 27 shM ad A r σ' H locs (F0 m 22 ls [])) ?_ ?_ f
    · intro v1 σ h; exact absurd h (by simp)
    · intro k22 ih22
      intro v1 σ h H locs hW ls hl
      refine lv_iload_n hx hb dX7_order_22 rfl (lv_at hl 1 rfl) ?_
      refine lv_aload_n hx hb dX7_order_23 rfl (lv_at hl 0 rfl) ?_
      refine r_geti hC hW 0 (Nat.le_of_ble_eq_true rfl) rfl rfl rfl (by decide) inUX7 (hts _ wd_294) rfl dX7_order_24 ?_
      refine lv_icmp_ge (tgt := 51) hx hb dX7_order_27 (by decide) (fun cq => ?_) (fun cq => ?_)
      · replace h := tp cq h
        refine lv_aload_n hx hb dX7_order_51 rfl (lv_at hl 0 rfl) ?_
        refine lv_iconst (v := 0) hx hb dX7_order_52 (by decide) ?_
        refine r_put hC hW 16 (Nat.le_of_ble_eq_true rfl) rfl rfl rfl (by decide) inUX7 tyX7 tyX7_ok nmX7 (hts _ wd_310) rfl rfl ⟨rfl, rfl⟩ dX7_order_53 (fun σ1 eσ1 H locs hWn => ?_)
        replace h := bn eσ1 h
        replace hW := hWn
        clear hWn eσ1
        refine lv_iconst (v := 1) hx hb dX7_order_56 (by decide) ?_
        exact r_iretW hC hr hlocks h hW dX7_order_57
      · replace h := tn cq h
        refine lv_aload_n hx hb dX7_order_30 rfl (lv_at hl 0 rfl) ?_
        refine r_getr hC hW 6 (Nat.le_of_ble_eq_true rfl) rfl rfl rfl (by decide) inUX7 (hts _ wd_399) rfl dX7_order_31 ?_
        refine lv_iload_n hx hb dX7_order_34 rfl (lv_at hl 1 rfl) ?_
        refine lv_aload_n hx hb dX7_order_35 rfl (lv_at hl 0 rfl) ?_
        refine r_getr hC hW 15 (Nat.le_of_ble_eq_true rfl) rfl rfl rfl (by decide) inUX7 (hts _ wd_311) rfl dX7_order_36 ?_
        refine lv_iload_n hx hb dX7_order_39 rfl (lv_at hl 1 rfl) ?_
        replace h := og h
        obtain ⟨hi, h⟩ := h
        refine r_ald hC hW (Nat.le_of_ble_eq_true rfl) rfl hi dX7_order_40 ?_
        refine lv_bipush (v := 48) hx hb dX7_order_41 (by decide) ?_
        refine lv_isub hx hb dX7_order_43 ?_
        replace h := og h
        obtain ⟨hi, h⟩ := h
        refine r_ast hC hW (Nat.le_of_ble_eq_true rfl) rfl hi dX7_order_44 (fun σ2 eσ2 H locs hWn => ?_)
        replace h := bn eσ2 h
        replace hW := hWn
        clear hWn eσ2
        replace h := bx h
        obtain ⟨x3, ex3, h⟩ := h
        refine lv_iinc (v := x3) (lv' := [(1, .int x3), (0, .ref (ad 0))]) hx hb dX7_order_45 hl (k := 1) rfl (by rw [ex3]; rfl) (by decide) rfl (fun ls hln => ?_)
        replace hl := hln
        clear hln ex3
        refine lv_goto (tgt := 22) hx hb dX7_order_48 (by decide) ?_
        exact ih22 _ _ h _ _ hW _ (lv_sub hl [1, 0] rfl)
  refine lv_aload_n hx hb dX7_order_0 rfl (lv_at hl 0 rfl) ?_
  replace h := bd h
  obtain ⟨r4, hc, h⟩ := h
  refine r_calli hW (va_runV (As := []) (rest := []) hC.1 (c_X7_faultOfOrder l D cy ad A N _ _ hc) (cwV 0 hts (gdV wd_430 wd_431 wd_432 wd_300 wd_429) rfl rfl rfl (by decide +kernel) ⟨Nat.le_of_ble_eq_true rfl, Nat.le_of_ble_eq_true rfl⟩) (r_preV hC hW (Nat.le_of_ble_eq_true rfl) rfl rfl) rfl rfl hl.1 rfl (lv_room (Nat.le_of_ble_eq_true rfl)) dX7_order_1 ⟨Nat.zero_le _, Nat.zero_le _⟩) (fun H locs hWn => ?_)
  replace hW := hWn
  clear hWn hc
  refine lv_if_lt (tgt := 10) hx hb dX7_order_4 (by decide) (fun cq => ?_) (fun cq => ?_)
  · replace h := tp cq h
    refine lv_aload_n hx hb dX7_order_10 rfl (lv_at hl 0 rfl) ?_
    replace h := bd h
    obtain ⟨r5, hc, h⟩ := h
    refine r_calli hW (va_runV (As := []) (rest := []) hC.1 (c_X7_areAllWhole l D cy ad A N _ _ hc) (cwV 0 hts (gdV wd_383 wd_384 wd_385 wd_300 wd_382) rfl rfl rfl (by decide +kernel) ⟨Nat.le_of_ble_eq_true rfl, Nat.le_of_ble_eq_true rfl⟩) (r_preV hC hW (Nat.le_of_ble_eq_true rfl) rfl rfl) rfl rfl hl.1 rfl (lv_room (Nat.le_of_ble_eq_true rfl)) dX7_order_11 ⟨Nat.zero_le _, Nat.zero_le _⟩) (fun H locs hWn => ?_)
    replace hW := hWn
    clear hWn hc
    refine lv_if_ne (tgt := 20) hx hb dX7_order_14 (by decide) (fun cq => ?_) (fun cq => ?_)
    · replace h := tn cq h
      refine lv_iconst (v := 0) hx hb dX7_order_20 (by decide) ?_
      refine lv_istore_n (lv' := [(1, .int 0), (0, .ref (ad 0))]) hx hb dX7_order_21 rfl hl (by decide) rfl (fun ls hln => ?_)
      replace hl := hln
      clear hln
      exact L22 _ _ _ h _ _ hW _ (lv_sub hl [1, 0] rfl)
    · replace h := tp cq h
      refine lv_bipush (v := (-3)) hx hb dX7_order_17 (by decide) ?_
      exact r_iretW hC hr hlocks h hW dX7_order_19
  · replace h := tn cq h
    refine lv_bipush (v := (-5)) hx hb dX7_order_7 (by decide) ?_
    exact r_iretW hC hr hlocks h hW dX7_order_9
set_option maxHeartbeats 4000000 in
set_option maxRecDepth 100000 in
theorem c_X7_places (l : Launch) (D : va_G) (cy : ClassId × ClassId) (ad : Nat → Nat) (A : Nat → Prop) (N : Nat) (p0 : Int32) (σ : Hp) (r : Int32) (σ' : Hp) (h : t_X7_places N p0 σ = some (r, σ')) : Ci l yX7_places us_X7_places ({ frames := 5, cells := 0, slots := 0, locals := 111 } : Room) D cy 27 shM ad A [.ref (ad 0), .int p0] σ r σ' := by
  unfold t_X7_places at h
  refine Met.ofW (cc := cX7_places) (maxL := 5) (ret := (some .int)) (by decide) rfl ?_
  intro p e s m args below meth c s₁ B hml hv
  obtain ⟨rfl, hP, hK, hD, hA, hN⟩ := hv
  have hx := B.exec
  have hb := B.bytes
  have hr := B.returns
  have hlocks := B.notSynchronized
  have hts : ∀ w ∈ wsU, w.before _ s = true := fun w h => atoms_spec (ws := us_X7_places) B.pre w (List.mem_cons_of_mem _ h)
  have hown : s.vm.findClass RX7 = some m.cls := findClass_of_methodNamed B.named
  have hC : Cx p m c cX7_places 5 s _ wsU RX7 D cy := ⟨⟨hx, hb, hml, hown, hts⟩, hK, hN⟩
  have hW : Wd D cy 27 shM ad A s.heap σ s.heap [] := ⟨hP, hD, va_S.rf, hA⟩
  have hl := lv_entry ([.ref (ad 0), .int p0]) (n := 5) (Nat.le_of_ble_eq_true rfl)
  rw [lg_entry_eq]
  generalize (lg_sl ([.ref (ad 0), .int p0]) ++ List.replicate (5 - (lg_sl ([.ref (ad 0), .int p0])).length) Slot.unset).toArray = ls at hl ⊢
  have hl : lv_has ls 5 [(0, .ref (ad 0)), (1, .int p0)] := hl
  have L28 : ∀ (f : Nat) (v1 : Int32) (v3 : Int32) (v4 : Int32) (σ : Hp), t_X7_places_28 N f v1 v3 v4 σ = some (r, σ') → ∀ (H : Heap) (locs : List Loc), Wd D cy 27 shM ad A s.heap σ H locs → ∀ ls : Array Slot, lv_has ls 5 [(0, .ref (ad 0)), (1, .int v1), (3, .int v3), (4, .int v4)] → Gi p l e us_X7_places ({ frames := 5, cells := 0, slots := 0, locals := 111 } : Room) s m [.ref (ad 0), .int p0] below meth c D cy 27 shM ad A r σ' H locs (F0 m 28 ls []) := by
    intro f
    unfold t_X7_places_28
    refine loopG_ind (fun (T : Int32 → Int32 → Int32 → Hp → Option (Int32 × Hp)) => ∀ (v1 : Int32) (v3 : Int32) (v4 : Int32) (σ : Hp), T v1 v3 v4 σ = some (r, σ') → ∀ (H : Heap) (locs : List Loc), Wd D cy 27 shM ad A s.heap σ H locs → ∀ ls : Array Slot, lv_has ls 5 [(0, .ref (ad 0)), (1, .int v1), (3, .int v3), (4, .int v4)] → Gi p l e us_X7_places ({ frames := 5, cells := 0, slots := 0, locals := 111 } : Room) s m [.ref (ad 0), .int p0] below meth c D cy 27 shM ad A r σ' H locs (F0 m 28 ls [])) ?_ ?_ f
    · intro v1 v3 v4 σ h; exact absurd h (by simp)
    · intro k28 ih28
      have J61 : ∀ (v1 : Int32) (v4 : Int32) (s0 : Int32) (s1 : Int32) (σ : Hp), t_X7_places_61 N k28 v1 v4 s0 s1 σ = some (r, σ') → ∀ (H : Heap) (locs : List Loc), Wd D cy 27 shM ad A s.heap σ H locs → ∀ ls : Array Slot, lv_has ls 5 [(0, .ref (ad 0)), (1, .int v1), (4, .int v4)] → Gi p l e us_X7_places ({ frames := 5, cells := 0, slots := 0, locals := 111 } : Room) s m [.ref (ad 0), .int p0] below meth c D cy 27 shM ad A r σ' H locs (F0 m 61 ls [.int s1, .int s0]) := by
        intro v1 v4 s0 s1 σ h H locs hW ls hl
        unfold t_X7_places_61 at h
        refine lv_ior hx hb dX7_places_61 ?_
        replace h := bx h
        obtain ⟨x1, ex1, h⟩ := h
        refine tope ex1 ?_
        clear ex1
        refine lv_istore_n (lv' := [(3, .int x1), (0, .ref (ad 0)), (1, .int v1), (4, .int v4)]) hx hb dX7_places_62 rfl hl (by decide) rfl (fun ls hln => ?_)
        replace hl := hln
        clear hln
        replace h := bx h
        obtain ⟨x2, ex2, h⟩ := h
        refine lv_iinc (v := x2) (lv' := [(4, .int x2), (3, .int x1), (0, .ref (ad 0)), (1, .int v1)]) hx hb dX7_places_63 hl (k := 3) rfl (by rw [ex2]; rfl) (by decide) rfl (fun ls hln => ?_)
        replace hl := hln
        clear hln ex2
        refine lv_goto (tgt := 28) hx hb dX7_places_66 (by decide) ?_
        exact ih28 _ _ _ _ h _ _ hW _ (lv_sub hl [2, 3, 1, 0] rfl)
      intro v1 v3 v4 σ h H locs hW ls hl
      refine lv_iload hx hb dX7_places_28 (lv_at hl 3 rfl) ?_
      refine lv_aload_n hx hb dX7_places_30 rfl (lv_at hl 0 rfl) ?_
      refine r_geti hC hW 0 (Nat.le_of_ble_eq_true rfl) rfl rfl rfl (by decide) inUX7 (hts _ wd_294) rfl dX7_places_31 ?_
      refine lv_icmp_ge (tgt := 69) hx hb dX7_places_34 (by decide) (fun cq => ?_) (fun cq => ?_)
      · replace h := tp cq h
        refine lv_iload_n hx hb dX7_places_69 rfl (lv_at hl 2 rfl) ?_
        exact r_iretW hC hr hlocks h hW dX7_places_70
      · replace h := tn cq h
        refine lv_iload_n hx hb dX7_places_37 rfl (lv_at hl 2 rfl) ?_
        refine lv_aload_n hx hb dX7_places_38 rfl (lv_at hl 0 rfl) ?_
        refine r_getr hC hW 35 (Nat.le_of_ble_eq_true rfl) rfl rfl rfl (by decide) inUX7 (hts _ wd_355) rfl dX7_places_39 ?_
        refine lv_bipush (v := 7) hx hb dX7_places_42 (by decide) ?_
        refine lv_iload_n hx hb dX7_places_44 rfl (lv_at hl 1 rfl) ?_
        refine lv_imul hx hb dX7_places_45 ?_
        refine lv_iload hx hb dX7_places_46 (lv_at hl 3 rfl) ?_
        refine lv_iadd hx hb dX7_places_48 ?_
        replace h := og h
        obtain ⟨hi, h⟩ := h
        refine r_ald hC hW (Nat.le_of_ble_eq_true rfl) rfl hi dX7_places_49 ?_
        refine lv_if_le (tgt := 60) hx hb dX7_places_50 (by decide) (fun cq => ?_) (fun cq => ?_)
        · replace h := tp cq h
          refine lv_iconst (v := 0) hx hb dX7_places_60 (by decide) ?_
          exact J61 _ _ _ _ _ h _ _ hW _ (lv_sub hl [0, 1, 3] rfl)
        · replace h := tn cq h
          refine lv_iconst (v := 1) hx hb dX7_places_53 (by decide) ?_
          refine lv_iload hx hb dX7_places_54 (lv_at hl 3 rfl) ?_
          refine lv_ishl hx hb dX7_places_56 ?_
          refine lv_goto (tgt := 61) hx hb dX7_places_57 (by decide) ?_
          exact J61 _ _ _ _ _ h _ _ hW _ (lv_sub hl [0, 1, 3] rfl)
  refine lv_aload_n hx hb dX7_places_0 rfl (lv_at hl 0 rfl) ?_
  refine lv_iload_n hx hb dX7_places_1 rfl (lv_at hl 1 rfl) ?_
  replace h := bd h
  obtain ⟨r3, hc, h⟩ := h
  refine r_calli hW (va_runV (As := [.int p0]) (rest := []) hC.1 (c_X7_isEgg l D cy ad A _ _ _ hc) (cwV 1 hts (gdV wd_307 wd_308 wd_309 wd_300 wd_306) rfl rfl rfl (by decide +kernel) ⟨Nat.le_of_ble_eq_true rfl, Nat.le_of_ble_eq_true rfl⟩) (r_preV hC hW (Nat.le_of_ble_eq_true rfl) rfl rfl) rfl rfl hl.1 rfl (lv_room (Nat.le_of_ble_eq_true rfl)) dX7_places_2 ⟨Nat.zero_le _, Nat.zero_le _⟩) (fun H locs hWn => ?_)
  replace hW := hWn
  clear hWn hc
  refine lv_if_ne (tgt := 10) hx hb dX7_places_5 (by decide) (fun cq => ?_) (fun cq => ?_)
  · replace h := tn cq h
    refine lv_aload_n hx hb dX7_places_10 rfl (lv_at hl 0 rfl) ?_
    replace h := ob h
    obtain ⟨r4, σ5, hc, h⟩ := h
    refine r_calli hW (va_runV (As := []) (rest := []) hC.1 (c_X7_goFits l D cy ad A N _ _ _ hc) (cwV 0 hts (gdV wd_395 wd_396 wd_397 wd_300 wd_394) rfl rfl rfl (by decide +kernel) ⟨Nat.le_of_ble_eq_true rfl, Nat.le_of_ble_eq_true rfl⟩) (r_preV hC hW (Nat.le_of_ble_eq_true rfl) rfl rfl) rfl rfl hl.1 rfl (lv_room (Nat.le_of_ble_eq_true rfl)) dX7_places_11 ⟨Nat.zero_le _, Nat.zero_le _⟩) (fun H locs hWn => ?_)
    replace hW := hWn
    clear hWn hc
    refine lv_istore_n (lv' := [(2, .int r4), (0, .ref (ad 0)), (1, .int p0)]) hx hb dX7_places_14 rfl hl (by decide) rfl (fun ls hln => ?_)
    replace hl := hln
    clear hln
    refine lv_iload_n hx hb dX7_places_15 rfl (lv_at hl 0 rfl) ?_
    refine lv_bipush (v := (-6)) hx hb dX7_places_16 (by decide) ?_
    refine lv_icmp_eq (tgt := 23) hx hb dX7_places_18 (by decide) (fun cq => ?_) (fun cq => ?_)
    · replace h := tp cq h
      refine lv_iconst (v := 0) hx hb dX7_places_23 (by decide) ?_
      refine lv_istore_n (lv' := [(3, .int 0), (2, .int r4), (0, .ref (ad 0)), (1, .int p0)]) hx hb dX7_places_24 rfl hl (by decide) rfl (fun ls hln => ?_)
      replace hl := hln
      clear hln
      refine lv_iconst (v := 0) hx hb dX7_places_25 (by decide) ?_
      refine lv_istore (lv' := [(4, .int 0), (3, .int 0), (2, .int r4), (0, .ref (ad 0)), (1, .int p0)]) hx hb dX7_places_26 hl (by decide) rfl (fun ls hln => ?_)
      replace hl := hln
      clear hln
      exact L28 _ _ _ _ _ h _ _ hW _ (lv_sub hl [3, 4, 1, 0] rfl)
    · replace h := tn cq h
      refine lv_iload_n hx hb dX7_places_21 rfl (lv_at hl 0 rfl) ?_
      exact r_iretW hC hr hlocks h hW dX7_places_22
  · replace h := tp cq h
    refine lv_iconst (v := (-1)) hx hb dX7_places_8 (by decide) ?_
    exact r_iretW hC hr hlocks h hW dX7_places_9
set_option maxHeartbeats 4000000 in
set_option maxRecDepth 100000 in
theorem c_X7_restore (l : Launch) (D : va_G) (cy : ClassId × ClassId) (ad : Nat → Nat) (A : Nat → Prop) (N : Nat) (p0 : Int32) (σ : Hp) (r : Int32) (σ' : Hp) (h : t_X7_restore N p0 σ = some (r, σ')) : Ci l yX7_restore us_X7_restore ({ frames := 2, cells := 0, slots := 0, locals := 43 } : Room) D cy 27 shM ad A [.ref (ad 0), .int p0] σ r σ' := by
  unfold t_X7_restore at h
  refine Met.ofW (cc := cX7_restore) (maxL := 2) (ret := (some .int)) (by decide) rfl ?_
  intro p e s m args below meth c s₁ B hml hv
  obtain ⟨rfl, hP, hK, hD, hA, hN⟩ := hv
  have hx := B.exec
  have hb := B.bytes
  have hr := B.returns
  have hlocks := B.notSynchronized
  have hts : ∀ w ∈ wsU, w.before _ s = true := fun w h => atoms_spec (ws := us_X7_restore) B.pre w (List.mem_cons_of_mem _ h)
  have hown : s.vm.findClass RX7 = some m.cls := findClass_of_methodNamed B.named
  have hC : Cx p m c cX7_restore 2 s _ wsU RX7 D cy := ⟨⟨hx, hb, hml, hown, hts⟩, hK, hN⟩
  have hW : Wd D cy 27 shM ad A s.heap σ s.heap [] := ⟨hP, hD, va_S.rf, hA⟩
  have hl := lv_entry ([.ref (ad 0), .int p0]) (n := 2) (Nat.le_of_ble_eq_true rfl)
  rw [lg_entry_eq]
  generalize (lg_sl ([.ref (ad 0), .int p0]) ++ List.replicate (2 - (lg_sl ([.ref (ad 0), .int p0])).length) Slot.unset).toArray = ls at hl ⊢
  have hl : lv_has ls 2 [(0, .ref (ad 0)), (1, .int p0)] := hl
  refine lv_iload_n hx hb dX7_restore_0 rfl (lv_at hl 1 rfl) ?_
  refine lv_i2l hx hb dX7_restore_1 rfl ?_
  refine lv_lconst (v := 0) hx hb dX7_restore_2 (by decide) ?_
  refine lv_lconst (v := 1) hx hb dX7_restore_3 (by decide) ?_
  replace h := bd h
  obtain ⟨r1, hc, h⟩ := h
  refine r_calli hW (va_runS (As := [.long (p0.toInt64), .long 0, .long 1]) (rest := []) hC.1 (c_X7_in l D cy ad A _ _ _ _ _ hc) (va_cwS 3 hts (gdS wd_298 wd_299 wd_300 wd_297) rfl rfl rfl (by decide +kernel) ⟨Nat.le_of_ble_eq_true rfl, Nat.le_of_ble_eq_true rfl⟩) (r_preS hC hW) rfl rfl hl.1 rfl (lv_room (Nat.le_of_ble_eq_true rfl)) dX7_restore_4 ⟨Nat.zero_le _, Nat.zero_le _⟩) (fun H locs hWn => ?_)
  replace hW := hWn
  clear hWn hc
  refine lv_if_ne (tgt := 13) hx hb dX7_restore_7 (by decide) (fun cq => ?_) (fun cq => ?_)
  · replace h := tn cq h
    refine lv_aload_n hx hb dX7_restore_13 rfl (lv_at hl 0 rfl) ?_
    refine r_getr hC hW 39 (Nat.le_of_ble_eq_true rfl) rfl rfl rfl (by decide) inUX7 (hts _ wd_457) rfl dX7_restore_14 ?_
    refine lv_iload_n hx hb dX7_restore_17 rfl (lv_at hl 1 rfl) ?_
    replace h := og h
    obtain ⟨hi, h⟩ := h
    refine r_zald hC hW (Nat.le_of_ble_eq_true rfl) rfl hi dX7_restore_18 ?_
    refine lv_if_ne (tgt := 25) hx hb dX7_restore_19 (by decide) (fun cq => ?_) (fun cq => ?_)
    · replace h := tn cq h
      refine lv_aload_n hx hb dX7_restore_25 rfl (lv_at hl 0 rfl) ?_
      refine lv_bipush (v := 120) hx hb dX7_restore_26 (by decide) ?_
      refine lv_iload_n hx hb dX7_restore_28 rfl (lv_at hl 1 rfl) ?_
      refine lv_imul hx hb dX7_restore_29 ?_
      refine r_put hC hW 40 (Nat.le_of_ble_eq_true rfl) rfl rfl rfl (by decide) inUX7 tyX7 tyX7_ok nmX7 (hts _ wd_447) rfl rfl ⟨rfl, rfl⟩ dX7_restore_30 (fun σ2 eσ2 H locs hWn => ?_)
      replace h := bn eσ2 h
      replace hW := hWn
      clear hWn eσ2
      refine lv_aload_n hx hb dX7_restore_33 rfl (lv_at hl 0 rfl) ?_
      refine lv_iconst (v := 0) hx hb dX7_restore_34 (by decide) ?_
      refine r_put hC hW 41 (Nat.le_of_ble_eq_true rfl) rfl rfl rfl (by decide) inUX7 tyX7 tyX7_ok nmX7 (hts _ wd_448) rfl rfl (nz (Or.inl rfl)) dX7_restore_35 (fun σ3 eσ3 H locs hWn => ?_)
      replace h := bn eσ3 h
      replace hW := hWn
      clear hWn eσ3
      refine lv_aload_n hx hb dX7_restore_38 rfl (lv_at hl 0 rfl) ?_
      replace h := bd h
      obtain ⟨σ4, hc, h⟩ := h
      refine r_callv hW (va_runV (As := []) (rest := []) hC.1 (c_X7_passAll l D cy ad A N _ _ hc) (cwV 0 hts (gdV wd_454 wd_455 wd_456 wd_300 wd_453) rfl rfl rfl (by decide +kernel) ⟨Nat.le_of_ble_eq_true rfl, Nat.le_of_ble_eq_true rfl⟩) (r_preV hC hW (Nat.le_of_ble_eq_true rfl) rfl rfl) rfl rfl hl.1 rfl (lv_room (Nat.le_of_ble_eq_true rfl)) dX7_restore_39 ⟨Nat.zero_le _, Nat.zero_le _⟩) (fun H locs hWn => ?_)
      replace hW := hWn
      clear hWn hc
      refine lv_iconst (v := 1) hx hb dX7_restore_42 (by decide) ?_
      exact r_iretW hC hr hlocks h hW dX7_restore_43
    · replace h := tp cq h
      refine lv_bipush (v := (-3)) hx hb dX7_restore_22 (by decide) ?_
      exact r_iretW hC hr hlocks h hW dX7_restore_24
  · replace h := tp cq h
    refine lv_bipush (v := (-2)) hx hb dX7_restore_10 (by decide) ?_
    exact r_iretW hC hr hlocks h hW dX7_restore_12
set_option maxHeartbeats 4000000 in
set_option maxRecDepth 100000 in
theorem c_X7_rests (l : Launch) (D : va_G) (cy : ClassId × ClassId) (ad : Nat → Nat) (A : Nat → Prop) (N : Nat) (p0 : Int32) (p1 : Int32) (σ : Hp) (r : Int32) (σ' : Hp) (h : t_X7_rests N p0 p1 σ = some (r, σ')) : Ci l yX7_rests us_X7_rests ({ frames := 3, cells := 0, slots := 0, locals := 75 } : Room) D cy 27 shM ad A [.ref (ad 0), .int p0, .int p1] σ r σ' := by
  unfold t_X7_rests at h
  refine Met.ofW (cc := cX7_rests) (maxL := 6) (ret := (some .int)) (by decide) rfl ?_
  intro p e s m args below meth c s₁ B hml hv
  obtain ⟨rfl, hP, hK, hD, hA, hN⟩ := hv
  have hx := B.exec
  have hb := B.bytes
  have hr := B.returns
  have hlocks := B.notSynchronized
  have hts : ∀ w ∈ wsU, w.before _ s = true := fun w h => atoms_spec (ws := us_X7_rests) B.pre w (List.mem_cons_of_mem _ h)
  have hown : s.vm.findClass RX7 = some m.cls := findClass_of_methodNamed B.named
  have hC : Cx p m c cX7_rests 6 s _ wsU RX7 D cy := ⟨⟨hx, hb, hml, hown, hts⟩, hK, hN⟩
  have hW : Wd D cy 27 shM ad A s.heap σ s.heap [] := ⟨hP, hD, va_S.rf, hA⟩
  have hl := lv_entry ([.ref (ad 0), .int p0, .int p1]) (n := 6) (Nat.le_of_ble_eq_true rfl)
  rw [lg_entry_eq]
  generalize (lg_sl ([.ref (ad 0), .int p0, .int p1]) ++ List.replicate (6 - (lg_sl ([.ref (ad 0), .int p0, .int p1])).length) Slot.unset).toArray = ls at hl ⊢
  have hl : lv_has ls 6 [(0, .ref (ad 0)), (1, .int p0), (2, .int p1)] := hl
  have L26 : ∀ (f : Nat) (v1 : Int32) (v2 : Int32) (v3 : Int32) (v4 : Int32) (v5 : Int32) (σ : Hp), t_X7_rests_26 N f v1 v2 v3 v4 v5 σ = some (r, σ') → ∀ (H : Heap) (locs : List Loc), Wd D cy 27 shM ad A s.heap σ H locs → ∀ ls : Array Slot, lv_has ls 6 [(0, .ref (ad 0)), (1, .int v1), (2, .int v2), (3, .int v3), (4, .int v4), (5, .int v5)] → Gi p l e us_X7_rests ({ frames := 3, cells := 0, slots := 0, locals := 75 } : Room) s m [.ref (ad 0), .int p0, .int p1] below meth c D cy 27 shM ad A r σ' H locs (F0 m 26 ls []) := by
    intro f
    unfold t_X7_rests_26
    refine loopG_ind (fun (T : Int32 → Int32 → Int32 → Int32 → Int32 → Hp → Option (Int32 × Hp)) => ∀ (v1 : Int32) (v2 : Int32) (v3 : Int32) (v4 : Int32) (v5 : Int32) (σ : Hp), T v1 v2 v3 v4 v5 σ = some (r, σ') → ∀ (H : Heap) (locs : List Loc), Wd D cy 27 shM ad A s.heap σ H locs → ∀ ls : Array Slot, lv_has ls 6 [(0, .ref (ad 0)), (1, .int v1), (2, .int v2), (3, .int v3), (4, .int v4), (5, .int v5)] → Gi p l e us_X7_rests ({ frames := 3, cells := 0, slots := 0, locals := 75 } : Room) s m [.ref (ad 0), .int p0, .int p1] below meth c D cy 27 shM ad A r σ' H locs (F0 m 26 ls [])) ?_ ?_ f
    · intro v1 v2 v3 v4 v5 σ h; exact absurd h (by simp)
    · intro k26 ih26
      have J65 : ∀ (v1 : Int32) (v2 : Int32) (v3 : Int32) (v4 : Int32) (v5 : Int32) (σ : Hp), t_X7_rests_65 N k26 v1 v2 v3 v4 v5 σ = some (r, σ') → ∀ (H : Heap) (locs : List Loc), Wd D cy 27 shM ad A s.heap σ H locs → ∀ ls : Array Slot, lv_has ls 6 [(0, .ref (ad 0)), (1, .int v1), (2, .int v2), (3, .int v3), (4, .int v4), (5, .int v5)] → Gi p l e us_X7_rests ({ frames := 3, cells := 0, slots := 0, locals := 75 } : Room) s m [.ref (ad 0), .int p0, .int p1] below meth c D cy 27 shM ad A r σ' H locs (F0 m 65 ls []) := by
        intro v1 v2 v3 v4 v5 σ h H locs hW ls hl
        unfold t_X7_rests_65 at h
        replace h := bx h
        obtain ⟨x1, ex1, h⟩ := h
        refine lv_iinc (v := x1) (lv' := [(5, .int x1), (0, .ref (ad 0)), (1, .int v1), (2, .int v2), (3, .int v3), (4, .int v4)]) hx hb dX7_rests_65 hl (k := 5) rfl (by rw [ex1]; rfl) (by decide) rfl (fun ls hln => ?_)
        replace hl := hln
        clear hln ex1
        refine lv_goto (tgt := 26) hx hb dX7_rests_68 (by decide) ?_
        exact ih26 _ _ _ _ _ _ h _ _ hW _ (lv_sub hl [1, 2, 3, 4, 5, 0] rfl)
      intro v1 v2 v3 v4 v5 σ h H locs hW ls hl
      refine lv_iload hx hb dX7_rests_26 (lv_at hl 5 rfl) ?_
      refine lv_bipush (v := 64) hx hb dX7_rests_28 (by decide) ?_
      refine lv_icmp_ge (tgt := 71) hx hb dX7_rests_30 (by decide) (fun cq => ?_) (fun cq => ?_)
      · replace h := tp cq h
        refine lv_iload_n hx hb dX7_rests_71 rfl (lv_at hl 2 rfl) ?_
        refine lv_iconst (v := (-1)) hx hb dX7_rests_72 (by decide) ?_
        refine lv_icmp_ne (tgt := 81) hx hb dX7_rests_73 (by decide) (fun cq => ?_) (fun cq => ?_)
        · replace h := tn cq h
          refine lv_bipush (v := (-6)) hx hb dX7_rests_81 (by decide) ?_
          exact r_iretW hC hr hlocks h hW dX7_rests_83
        · replace h := tp cq h
          refine lv_iload hx hb dX7_rests_76 (lv_at hl 4 rfl) ?_
          refine lv_goto (tgt := 83) hx hb dX7_rests_78 (by decide) ?_
          exact r_iretW hC hr hlocks h hW dX7_rests_83
      · replace h := tn cq h
        refine lv_iload hx hb dX7_rests_33 (lv_at hl 5 rfl) ?_
        refine lv_iload_n hx hb dX7_rests_35 rfl (lv_at hl 3 rfl) ?_
        refine lv_iconst (v := (-1)) hx hb dX7_rests_36 (by decide) ?_
        refine lv_ixor hx hb dX7_rests_37 ?_
        refine lv_iand hx hb dX7_rests_38 ?_
        refine lv_if_ne (tgt := 65) hx hb dX7_rests_39 (by decide) (fun cq => ?_) (fun cq => ?_)
        · replace h := tn cq h
          exact J65 _ _ _ _ _ _ h _ _ hW _ (lv_sub hl [0, 1, 2, 3, 4, 5] rfl)
        · replace h := tp cq h
          refine lv_aload_n hx hb dX7_rests_42 rfl (lv_at hl 0 rfl) ?_
          refine lv_iload hx hb dX7_rests_43 (lv_at hl 5 rfl) ?_
          refine lv_iload_n hx hb dX7_rests_45 rfl (lv_at hl 3 rfl) ?_
          refine lv_iload_n hx hb dX7_rests_46 rfl (lv_at hl 1 rfl) ?_
          replace h := ob h
          obtain ⟨r2, σ3, hc, h⟩ := h
          refine r_calli hW (va_runV (As := [.int v5, .int v3, .int v1]) (rest := []) hC.1 (c_X7_isRest l D cy ad A N _ _ _ _ _ _ hc) (cwV 3 hts (gdV wd_466 wd_467 wd_468 wd_300 wd_465) rfl rfl rfl (by decide +kernel) ⟨Nat.le_of_ble_eq_true rfl, Nat.le_of_ble_eq_true rfl⟩) (r_preV hC hW (Nat.le_of_ble_eq_true rfl) rfl rfl) rfl rfl hl.1 rfl (lv_room (Nat.le_of_ble_eq_true rfl)) dX7_rests_47 ⟨Nat.zero_le _, Nat.zero_le _⟩) (fun H locs hWn => ?_)
          replace hW := hWn
          clear hWn hc
          refine lv_if_eq (tgt := 65) hx hb dX7_rests_50 (by decide) (fun cq => ?_) (fun cq => ?_)
          · replace h := tp cq h
            exact J65 _ _ _ _ _ _ h _ _ hW _ (lv_sub hl [0, 1, 2, 3, 4, 5] rfl)
          · replace h := tn cq h
            refine lv_iload hx hb dX7_rests_53 (lv_at hl 4 rfl) ?_
            refine lv_iload_n hx hb dX7_rests_55 rfl (lv_at hl 2 rfl) ?_
            refine lv_icmp_ne (tgt := 62) hx hb dX7_rests_56 (by decide) (fun cq => ?_) (fun cq => ?_)
            · replace h := tn cq h
              replace h := bx h
              obtain ⟨x4, ex4, h⟩ := h
              refine lv_iinc (v := x4) (lv' := [(4, .int x4), (0, .ref (ad 0)), (1, .int v1), (2, .int v2), (3, .int v3), (5, .int v5)]) hx hb dX7_rests_62 hl (k := 4) rfl (by rw [ex4]; rfl) (by decide) rfl (fun ls hln => ?_)
              replace hl := hln
              clear hln ex4
              exact J65 _ _ _ _ _ _ h _ _ hW _ (lv_sub hl [1, 2, 3, 4, 0, 5] rfl)
            · replace h := tp cq h
              refine lv_iload hx hb dX7_rests_59 (lv_at hl 5 rfl) ?_
              exact r_iretW hC hr hlocks h hW dX7_rests_61
  refine lv_iload_n hx hb dX7_rests_0 rfl (lv_at hl 1 rfl) ?_
  refine lv_i2l hx hb dX7_rests_1 rfl ?_
  refine lv_lconst (v := 0) hx hb dX7_rests_2 (by decide) ?_
  refine lv_ldc2 hx hb hown (hts _ wd_469) dX7_rests_3 ?_
  replace h := bd h
  obtain ⟨r5, hc, h⟩ := h
  refine r_calli hW (va_runS (As := [.long (p0.toInt64), .long 0, .long (99)]) (rest := []) hC.1 (c_X7_in l D cy ad A _ _ _ _ _ hc) (va_cwS 3 hts (gdS wd_298 wd_299 wd_300 wd_297) rfl rfl rfl (by decide +kernel) ⟨Nat.le_of_ble_eq_true rfl, Nat.le_of_ble_eq_true rfl⟩) (r_preS hC hW) rfl rfl hl.1 rfl (lv_room (Nat.le_of_ble_eq_true rfl)) dX7_rests_6 ⟨Nat.zero_le _, Nat.zero_le _⟩) (fun H locs hWn => ?_)
  replace hW := hWn
  clear hWn hc
  refine lv_if_ne (tgt := 15) hx hb dX7_rests_9 (by decide) (fun cq => ?_) (fun cq => ?_)
  · replace h := tn cq h
    refine lv_aload_n hx hb dX7_rests_15 rfl (lv_at hl 0 rfl) ?_
    replace h := bd h
    obtain ⟨r6, hc, h⟩ := h
    refine r_calli hW (va_runV (As := []) (rest := []) hC.1 (c_X7_housesWithWhole l D cy ad A N _ _ hc) (cwV 0 hts (gdV wd_471 wd_472 wd_473 wd_300 wd_470) rfl rfl rfl (by decide +kernel) ⟨Nat.le_of_ble_eq_true rfl, Nat.le_of_ble_eq_true rfl⟩) (r_preV hC hW (Nat.le_of_ble_eq_true rfl) rfl rfl) rfl rfl hl.1 rfl (lv_room (Nat.le_of_ble_eq_true rfl)) dX7_rests_16 ⟨Nat.zero_le _, Nat.zero_le _⟩) (fun H locs hWn => ?_)
    replace hW := hWn
    clear hWn hc
    refine lv_istore_n (lv' := [(3, .int r6), (0, .ref (ad 0)), (1, .int p0), (2, .int p1)]) hx hb dX7_rests_19 rfl hl (by decide) rfl (fun ls hln => ?_)
    replace hl := hln
    clear hln
    refine lv_iconst (v := 0) hx hb dX7_rests_20 (by decide) ?_
    refine lv_istore (lv' := [(4, .int 0), (3, .int r6), (0, .ref (ad 0)), (1, .int p0), (2, .int p1)]) hx hb dX7_rests_21 hl (by decide) rfl (fun ls hln => ?_)
    replace hl := hln
    clear hln
    refine lv_iconst (v := 0) hx hb dX7_rests_23 (by decide) ?_
    refine lv_istore (lv' := [(5, .int 0), (4, .int 0), (3, .int r6), (0, .ref (ad 0)), (1, .int p0), (2, .int p1)]) hx hb dX7_rests_24 hl (by decide) rfl (fun ls hln => ?_)
    replace hl := hln
    clear hln
    exact L26 _ _ _ _ _ _ _ h _ _ hW _ (lv_sub hl [3, 4, 5, 2, 1, 0] rfl)
  · replace h := tp cq h
    refine lv_bipush (v := (-2)) hx hb dX7_rests_12 (by decide) ?_
    exact r_iretW hC hr hlocks h hW dX7_rests_14
set_option maxHeartbeats 4000000 in
set_option maxRecDepth 100000 in
theorem c_X7_rowsOf (l : Launch) (D : va_G) (cy : ClassId × ClassId) (ad : Nat → Nat) (A : Nat → Prop) (N : Nat) (p0 : Int32) (σ : Hp) (r : Int32) (h : t_X7_rowsOf N p0 = some r) : Ci l yX7_rowsOf us_X7_rowsOf ({ frames := 0, cells := 0, slots := 0, locals := 0 } : Room) D cy 27 shM ad A [.int p0] σ r σ := by
  unfold t_X7_rowsOf at h
  refine Met.ofW (cc := cX7_rowsOf) (maxL := 3) (ret := (some .int)) (by decide) rfl ?_
  intro p e s m args below meth c s₁ B hml hv
  obtain ⟨rfl, hP, hK, hD, hA, hN⟩ := hv
  have hx := B.exec
  have hb := B.bytes
  have hr := B.returns
  have hlocks := B.notSynchronized
  have hts : ∀ w ∈ wsU, w.before _ s = true := fun w h => atoms_spec (ws := us_X7_rowsOf) B.pre w (List.mem_cons_of_mem _ h)
  have hown : s.vm.findClass RX7 = some m.cls := findClass_of_methodNamed B.named
  have hC : Cx p m c cX7_rowsOf 3 s _ wsU RX7 D cy := ⟨⟨hx, hb, hml, hown, hts⟩, hK, hN⟩
  have hW : Wd D cy 27 shM ad A s.heap σ s.heap [] := ⟨hP, hD, va_S.rf, hA⟩
  have hl := lv_entry ([.int p0]) (n := 3) (Nat.le_of_ble_eq_true rfl)
  rw [lg_entry_eq]
  generalize (lg_sl ([.int p0]) ++ List.replicate (3 - (lg_sl ([.int p0])).length) Slot.unset).toArray = ls at hl ⊢
  have hl : lv_has ls 3 [(0, .int p0)] := hl
  have L4 : ∀ (f : Nat) (v0 : Int32) (v1 : Int32) (v2 : Int32), t_X7_rowsOf_4 N f v0 v1 v2 = some r → ∀ (H : Heap) (locs : List Loc), Wd D cy 27 shM ad A s.heap σ H locs → ∀ ls : Array Slot, lv_has ls 3 [(0, .int v0), (1, .int v1), (2, .int v2)] → Gi p l e us_X7_rowsOf ({ frames := 0, cells := 0, slots := 0, locals := 0 } : Room) s m [.int p0] below meth c D cy 27 shM ad A r σ H locs (F0 m 4 ls []) := by
    intro f
    unfold t_X7_rowsOf_4
    refine loopG_ind (fun (T : Int32 → Int32 → Int32 → Option Int32) => ∀ (v0 : Int32) (v1 : Int32) (v2 : Int32), T v0 v1 v2 = some r → ∀ (H : Heap) (locs : List Loc), Wd D cy 27 shM ad A s.heap σ H locs → ∀ ls : Array Slot, lv_has ls 3 [(0, .int v0), (1, .int v1), (2, .int v2)] → Gi p l e us_X7_rowsOf ({ frames := 0, cells := 0, slots := 0, locals := 0 } : Room) s m [.int p0] below meth c D cy 27 shM ad A r σ H locs (F0 m 4 ls [])) ?_ ?_ f
    · intro v0 v1 v2 h; exact absurd h (by simp)
    · intro k4 ih4
      intro v0 v1 v2 h H locs hW ls hl
      refine lv_iload_n hx hb dX7_rowsOf_4 rfl (lv_at hl 2 rfl) ?_
      refine lv_iload_n hx hb dX7_rowsOf_5 rfl (lv_at hl 0 rfl) ?_
      refine lv_icmp_gt (tgt := 19) hx hb dX7_rowsOf_6 (by decide) (fun cq => ?_) (fun cq => ?_)
      · replace h := tp cq h
        refine lv_iload_n hx hb dX7_rowsOf_19 rfl (lv_at hl 1 rfl) ?_
        exact r_iretP hC hr hlocks h hW dX7_rowsOf_20
      · replace h := tn cq h
        refine lv_iload_n hx hb dX7_rowsOf_9 rfl (lv_at hl 1 rfl) ?_
        refine lv_iload_n hx hb dX7_rowsOf_10 rfl (lv_at hl 2 rfl) ?_
        refine lv_imul hx hb dX7_rowsOf_11 ?_
        replace h := bx h
        obtain ⟨x1, ex1, h⟩ := h
        refine tope ex1 ?_
        clear ex1
        refine lv_istore_n (lv' := [(1, .int x1), (0, .int v0), (2, .int v2)]) hx hb dX7_rowsOf_12 rfl hl (by decide) rfl (fun ls hln => ?_)
        replace hl := hln
        clear hln
        replace h := bx h
        obtain ⟨x2, ex2, h⟩ := h
        refine lv_iinc (v := x2) (lv' := [(2, .int x2), (1, .int x1), (0, .int v0)]) hx hb dX7_rowsOf_13 hl (k := 2) rfl (by rw [ex2]; rfl) (by decide) rfl (fun ls hln => ?_)
        replace hl := hln
        clear hln ex2
        refine lv_goto (tgt := 4) hx hb dX7_rowsOf_16 (by decide) ?_
        exact ih4 _ _ _ h _ _ hW _ (lv_sub hl [2, 1, 0] rfl)
  refine lv_iconst (v := 1) hx hb dX7_rowsOf_0 (by decide) ?_
  refine lv_istore_n (lv' := [(1, .int 1), (0, .int p0)]) hx hb dX7_rowsOf_1 rfl hl (by decide) rfl (fun ls hln => ?_)
  replace hl := hln
  clear hln
  refine lv_iconst (v := 2) hx hb dX7_rowsOf_2 (by decide) ?_
  refine lv_istore_n (lv' := [(2, .int 2), (1, .int 1), (0, .int p0)]) hx hb dX7_rowsOf_3 rfl hl (by decide) rfl (fun ls hln => ?_)
  replace hl := hln
  clear hln
  exact L4 _ _ _ _ h _ _ hW _ (lv_sub hl [2, 1, 0] rfl)
set_option maxHeartbeats 4000000 in
set_option maxRecDepth 100000 in
theorem c_X7_say (l : Launch) (D : va_G) (cy : ClassId × ClassId) (ad : Nat → Nat) (A : Nat → Prop) (p0 : Int32) (σ : Hp) (r : Int32) (σ' : Hp) (h : t_X7_say p0 σ = some (r, σ')) : Ci l yX7_say us_X7_say ({ frames := 1, cells := 0, slots := 0, locals := 25 } : Room) D cy 27 shM ad A [.ref (ad 0), .int p0] σ r σ' := by
  unfold t_X7_say at h
  refine Met.ofW (cc := cX7_say) (maxL := 2) (ret := (some .int)) (by decide) rfl ?_
  intro p e s m args below meth c s₁ B hml hv
  obtain ⟨rfl, hP, hK, hD, hA, hN⟩ := hv
  have hx := B.exec
  have hb := B.bytes
  have hr := B.returns
  have hlocks := B.notSynchronized
  have hts : ∀ w ∈ wsU, w.before _ s = true := fun w h => atoms_spec (ws := us_X7_say) B.pre w (List.mem_cons_of_mem _ h)
  have hown : s.vm.findClass RX7 = some m.cls := findClass_of_methodNamed B.named
  have hC : Cx p m c cX7_say 2 s _ wsU RX7 D cy := ⟨⟨hx, hb, hml, hown, hts⟩, hK, hN⟩
  have hW : Wd D cy 27 shM ad A s.heap σ s.heap [] := ⟨hP, hD, va_S.rf, hA⟩
  have hl := lv_entry ([.ref (ad 0), .int p0]) (n := 2) (Nat.le_of_ble_eq_true rfl)
  rw [lg_entry_eq]
  generalize (lg_sl ([.ref (ad 0), .int p0]) ++ List.replicate (2 - (lg_sl ([.ref (ad 0), .int p0])).length) Slot.unset).toArray = ls at hl ⊢
  have hl : lv_has ls 2 [(0, .ref (ad 0)), (1, .int p0)] := hl
  refine lv_iload_n hx hb dX7_say_0 rfl (lv_at hl 1 rfl) ?_
  refine lv_i2l hx hb dX7_say_1 rfl ?_
  refine lv_ldc2 hx hb hown (hts _ wd_474) dX7_say_2 ?_
  refine lv_ldc2 hx hb hown (hts _ wd_475) dX7_say_5 ?_
  replace h := bd h
  obtain ⟨r1, hc, h⟩ := h
  refine r_calli hW (va_runS (As := [.long (p0.toInt64), .long (33), .long (126)]) (rest := []) hC.1 (c_X7_in l D cy ad A _ _ _ _ _ hc) (va_cwS 3 hts (gdS wd_298 wd_299 wd_300 wd_297) rfl rfl rfl (by decide +kernel) ⟨Nat.le_of_ble_eq_true rfl, Nat.le_of_ble_eq_true rfl⟩) (r_preS hC hW) rfl rfl hl.1 rfl (lv_room (Nat.le_of_ble_eq_true rfl)) dX7_say_8 ⟨Nat.zero_le _, Nat.zero_le _⟩) (fun H locs hWn => ?_)
  replace hW := hWn
  clear hWn hc
  refine lv_if_ne (tgt := 17) hx hb dX7_say_11 (by decide) (fun cq => ?_) (fun cq => ?_)
  · replace h := tn cq h
    refine lv_aload_n hx hb dX7_say_17 rfl (lv_at hl 0 rfl) ?_
    refine r_geti hC hW 16 (Nat.le_of_ble_eq_true rfl) rfl rfl rfl (by decide) inUX7 (hts _ wd_310) rfl dX7_say_18 ?_
    refine lv_bipush (v := 60) hx hb dX7_say_21 (by decide) ?_
    refine lv_icmp_ne (tgt := 29) hx hb dX7_say_23 (by decide) (fun cq => ?_) (fun cq => ?_)
    · replace h := tn cq h
      refine lv_aload_n hx hb dX7_say_29 rfl (lv_at hl 0 rfl) ?_
      refine r_getr hC hW 15 (Nat.le_of_ble_eq_true rfl) rfl rfl rfl (by decide) inUX7 (hts _ wd_311) rfl dX7_say_30 ?_
      refine lv_aload_n hx hb dX7_say_33 rfl (lv_at hl 0 rfl) ?_
      refine r_geti hC hW 16 (Nat.le_of_ble_eq_true rfl) rfl rfl rfl (by decide) inUX7 (hts _ wd_310) rfl dX7_say_34 ?_
      refine lv_iload_n hx hb dX7_say_37 rfl (lv_at hl 1 rfl) ?_
      replace h := og h
      obtain ⟨hi, h⟩ := h
      refine r_ast hC hW (Nat.le_of_ble_eq_true rfl) rfl hi dX7_say_38 (fun σ2 eσ2 H locs hWn => ?_)
      replace h := bn eσ2 h
      replace hW := hWn
      clear hWn eσ2
      refine lv_aload_n hx hb dX7_say_39 rfl (lv_at hl 0 rfl) ?_
      refine lv_dup hx hb dX7_say_40 rfl ?_
      refine r_geti hC hW 16 (Nat.le_of_ble_eq_true rfl) rfl rfl rfl (by decide) inUX7 (hts _ wd_310) rfl dX7_say_41 ?_
      refine lv_iconst (v := 1) hx hb dX7_say_44 (by decide) ?_
      refine lv_iadd hx hb dX7_say_45 ?_
      refine r_put hC hW 16 (Nat.le_of_ble_eq_true rfl) rfl rfl rfl (by decide) inUX7 tyX7 tyX7_ok nmX7 (hts _ wd_310) rfl rfl ⟨rfl, rfl⟩ dX7_say_46 (fun σ3 eσ3 H locs hWn => ?_)
      replace h := bn eσ3 h
      replace hW := hWn
      clear hWn eσ3
      refine lv_aload_n hx hb dX7_say_49 rfl (lv_at hl 0 rfl) ?_
      refine r_geti hC hW 16 (Nat.le_of_ble_eq_true rfl) rfl rfl rfl (by decide) inUX7 (hts _ wd_310) rfl dX7_say_50 ?_
      exact r_iretW hC hr hlocks h hW dX7_say_53
    · replace h := tp cq h
      refine lv_bipush (v := (-4)) hx hb dX7_say_26 (by decide) ?_
      exact r_iretW hC hr hlocks h hW dX7_say_28
  · replace h := tp cq h
    refine lv_bipush (v := (-2)) hx hb dX7_say_14 (by decide) ?_
    exact r_iretW hC hr hlocks h hW dX7_say_16
set_option maxHeartbeats 4000000 in
set_option maxRecDepth 100000 in
theorem c_X7_seen (l : Launch) (D : va_G) (cy : ClassId × ClassId) (ad : Nat → Nat) (A : Nat → Prop) (p0 : Int32) (p1 : Int32) (σ : Hp) (r : Int32) (σ' : Hp) (h : t_X7_seen p0 p1 σ = some (r, σ')) : Ci l yX7_seen us_X7_seen ({ frames := 2, cells := 0, slots := 0, locals := 46 } : Room) D cy 27 shM ad A [.ref (ad 0), .int p0, .int p1] σ r σ' := by
  unfold t_X7_seen at h
  refine Met.ofW (cc := cX7_seen) (maxL := 3) (ret := (some .int)) (by decide) rfl ?_
  intro p e s m args below meth c s₁ B hml hv
  obtain ⟨rfl, hP, hK, hD, hA, hN⟩ := hv
  have hx := B.exec
  have hb := B.bytes
  have hr := B.returns
  have hlocks := B.notSynchronized
  have hts : ∀ w ∈ wsU, w.before _ s = true := fun w h => atoms_spec (ws := us_X7_seen) B.pre w (List.mem_cons_of_mem _ h)
  have hown : s.vm.findClass RX7 = some m.cls := findClass_of_methodNamed B.named
  have hC : Cx p m c cX7_seen 3 s _ wsU RX7 D cy := ⟨⟨hx, hb, hml, hown, hts⟩, hK, hN⟩
  have hW : Wd D cy 27 shM ad A s.heap σ s.heap [] := ⟨hP, hD, va_S.rf, hA⟩
  have hl := lv_entry ([.ref (ad 0), .int p0, .int p1]) (n := 3) (Nat.le_of_ble_eq_true rfl)
  rw [lg_entry_eq]
  generalize (lg_sl ([.ref (ad 0), .int p0, .int p1]) ++ List.replicate (3 - (lg_sl ([.ref (ad 0), .int p0, .int p1])).length) Slot.unset).toArray = ls at hl ⊢
  have hl : lv_has ls 3 [(0, .ref (ad 0)), (1, .int p0), (2, .int p1)] := hl
  refine lv_aload_n hx hb dX7_seen_0 rfl (lv_at hl 0 rfl) ?_
  refine lv_iload_n hx hb dX7_seen_1 rfl (lv_at hl 1 rfl) ?_
  replace h := bd h
  obtain ⟨r1, hc, h⟩ := h
  refine r_calli hW (va_runV (As := [.int p0]) (rest := []) hC.1 (c_X7_isEgg l D cy ad A _ _ _ hc) (cwV 1 hts (gdV wd_307 wd_308 wd_309 wd_300 wd_306) rfl rfl rfl (by decide +kernel) ⟨Nat.le_of_ble_eq_true rfl, Nat.le_of_ble_eq_true rfl⟩) (r_preV hC hW (Nat.le_of_ble_eq_true rfl) rfl rfl) rfl rfl hl.1 rfl (lv_room (Nat.le_of_ble_eq_true rfl)) dX7_seen_2 ⟨Nat.zero_le _, Nat.zero_le _⟩) (fun H locs hWn => ?_)
  replace hW := hWn
  clear hWn hc
  refine lv_if_ne (tgt := 10) hx hb dX7_seen_5 (by decide) (fun cq => ?_) (fun cq => ?_)
  · replace h := tn cq h
    refine lv_iload_n hx hb dX7_seen_10 rfl (lv_at hl 2 rfl) ?_
    refine lv_i2l hx hb dX7_seen_11 rfl ?_
    refine lv_lconst (v := 0) hx hb dX7_seen_12 (by decide) ?_
    refine lv_ldc2 hx hb hown (hts _ wd_476) dX7_seen_13 ?_
    replace h := bd h
    obtain ⟨r2, hc, h⟩ := h
    refine r_calli hW (va_runS (As := [.long (p1.toInt64), .long 0, .long (60)]) (rest := []) hC.1 (c_X7_in l D cy ad A _ _ _ _ _ hc) (va_cwS 3 hts (gdS wd_298 wd_299 wd_300 wd_297) rfl rfl rfl (by decide +kernel) ⟨Nat.le_of_ble_eq_true rfl, Nat.le_of_ble_eq_true rfl⟩) (r_preS hC hW) rfl rfl hl.1 rfl (lv_room (Nat.le_of_ble_eq_true rfl)) dX7_seen_16 ⟨Nat.zero_le _, Nat.zero_le _⟩) (fun H locs hWn => ?_)
    replace hW := hWn
    clear hWn hc
    refine lv_if_ne (tgt := 25) hx hb dX7_seen_19 (by decide) (fun cq => ?_) (fun cq => ?_)
    · replace h := tn cq h
      refine lv_aload_n hx hb dX7_seen_25 rfl (lv_at hl 0 rfl) ?_
      refine r_geti hC hW 14 (Nat.le_of_ble_eq_true rfl) rfl rfl rfl (by decide) inUX7 (hts _ wd_343) rfl dX7_seen_26 ?_
      refine lv_bipush (v := 7) hx hb dX7_seen_29 (by decide) ?_
      refine lv_icmp_ne (tgt := 37) hx hb dX7_seen_31 (by decide) (fun cq => ?_) (fun cq => ?_)
      · replace h := tn cq h
        refine lv_aload_n hx hb dX7_seen_37 rfl (lv_at hl 0 rfl) ?_
        refine r_getr hC hW 12 (Nat.le_of_ble_eq_true rfl) rfl rfl rfl (by decide) inUX7 (hts _ wd_348) rfl dX7_seen_38 ?_
        refine lv_aload_n hx hb dX7_seen_41 rfl (lv_at hl 0 rfl) ?_
        refine r_geti hC hW 14 (Nat.le_of_ble_eq_true rfl) rfl rfl rfl (by decide) inUX7 (hts _ wd_343) rfl dX7_seen_42 ?_
        refine lv_iload_n hx hb dX7_seen_45 rfl (lv_at hl 1 rfl) ?_
        replace h := og h
        obtain ⟨hi, h⟩ := h
        refine r_ast hC hW (Nat.le_of_ble_eq_true rfl) rfl hi dX7_seen_46 (fun σ3 eσ3 H locs hWn => ?_)
        replace h := bn eσ3 h
        replace hW := hWn
        clear hWn eσ3
        refine lv_aload_n hx hb dX7_seen_47 rfl (lv_at hl 0 rfl) ?_
        refine r_getr hC hW 13 (Nat.le_of_ble_eq_true rfl) rfl rfl rfl (by decide) inUX7 (hts _ wd_349) rfl dX7_seen_48 ?_
        refine lv_aload_n hx hb dX7_seen_51 rfl (lv_at hl 0 rfl) ?_
        refine r_geti hC hW 14 (Nat.le_of_ble_eq_true rfl) rfl rfl rfl (by decide) inUX7 (hts _ wd_343) rfl dX7_seen_52 ?_
        refine lv_iload_n hx hb dX7_seen_55 rfl (lv_at hl 2 rfl) ?_
        replace h := og h
        obtain ⟨hi, h⟩ := h
        refine r_ast hC hW (Nat.le_of_ble_eq_true rfl) rfl hi dX7_seen_56 (fun σ4 eσ4 H locs hWn => ?_)
        replace h := bn eσ4 h
        replace hW := hWn
        clear hWn eσ4
        refine lv_aload_n hx hb dX7_seen_57 rfl (lv_at hl 0 rfl) ?_
        refine lv_dup hx hb dX7_seen_58 rfl ?_
        refine r_geti hC hW 14 (Nat.le_of_ble_eq_true rfl) rfl rfl rfl (by decide) inUX7 (hts _ wd_343) rfl dX7_seen_59 ?_
        refine lv_iconst (v := 1) hx hb dX7_seen_62 (by decide) ?_
        refine lv_iadd hx hb dX7_seen_63 ?_
        refine r_put hC hW 14 (Nat.le_of_ble_eq_true rfl) rfl rfl rfl (by decide) inUX7 tyX7 tyX7_ok nmX7 (hts _ wd_343) rfl rfl ⟨rfl, rfl⟩ dX7_seen_64 (fun σ5 eσ5 H locs hWn => ?_)
        replace h := bn eσ5 h
        replace hW := hWn
        clear hWn eσ5
        refine lv_aload_n hx hb dX7_seen_67 rfl (lv_at hl 0 rfl) ?_
        refine r_geti hC hW 14 (Nat.le_of_ble_eq_true rfl) rfl rfl rfl (by decide) inUX7 (hts _ wd_343) rfl dX7_seen_68 ?_
        exact r_iretW hC hr hlocks h hW dX7_seen_71
      · replace h := tp cq h
        refine lv_bipush (v := (-4)) hx hb dX7_seen_34 (by decide) ?_
        exact r_iretW hC hr hlocks h hW dX7_seen_36
    · replace h := tp cq h
      refine lv_bipush (v := (-2)) hx hb dX7_seen_22 (by decide) ?_
      exact r_iretW hC hr hlocks h hW dX7_seen_24
  · replace h := tp cq h
    refine lv_iconst (v := (-1)) hx hb dX7_seen_8 (by decide) ?_
    exact r_iretW hC hr hlocks h hW dX7_seen_9
set_option maxHeartbeats 4000000 in
set_option maxRecDepth 100000 in
theorem c_X7_shapley (l : Launch) (D : va_G) (cy : ClassId × ClassId) (ad : Nat → Nat) (A : Nat → Prop) (N : Nat) (p0 : Int32) (p1 : Int32) (σ : Hp) (r : Int64) (σ' : Hp) (h : t_X7_shapley N p0 p1 σ = some (r, σ')) : Cl l yX7_shapley us_X7_shapley ({ frames := 2, cells := 0, slots := 0, locals := 45 } : Room) D cy 27 shM ad A [.ref (ad 0), .int p0, .int p1] σ r σ' := by
  unfold t_X7_shapley at h
  refine Met.ofW (cc := cX7_shapley) (maxL := 7) (ret := (some .long)) (by decide) rfl ?_
  intro p e s m args below meth c s₁ B hml hv
  obtain ⟨rfl, hP, hK, hD, hA, hN⟩ := hv
  have hx := B.exec
  have hb := B.bytes
  have hr := B.returns
  have hlocks := B.notSynchronized
  have hts : ∀ w ∈ wsU, w.before _ s = true := fun w h => atoms_spec (ws := us_X7_shapley) B.pre w (List.mem_cons_of_mem _ h)
  have hown : s.vm.findClass RX7 = some m.cls := findClass_of_methodNamed B.named
  have hC : Cx p m c cX7_shapley 7 s _ wsU RX7 D cy := ⟨⟨hx, hb, hml, hown, hts⟩, hK, hN⟩
  have hW : Wd D cy 27 shM ad A s.heap σ s.heap [] := ⟨hP, hD, va_S.rf, hA⟩
  have hl := lv_entry ([.ref (ad 0), .int p0, .int p1]) (n := 7) (Nat.le_of_ble_eq_true rfl)
  rw [lg_entry_eq]
  generalize (lg_sl ([.ref (ad 0), .int p0, .int p1]) ++ List.replicate (7 - (lg_sl ([.ref (ad 0), .int p0, .int p1])).length) Slot.unset).toArray = ls at hl ⊢
  have hl : lv_has ls 7 [(0, .ref (ad 0)), (1, .int p0), (2, .int p1)] := hl
  have L30 : ∀ (f : Nat) (v1 : Int32) (v2 : Int32) (v3 : Int64) (v5 : Int32) (σ : Hp), t_X7_shapley_30 N f v1 v2 v3 v5 σ = some (r, σ') → ∀ (H : Heap) (locs : List Loc), Wd D cy 27 shM ad A s.heap σ H locs → ∀ ls : Array Slot, lv_has ls 7 [(0, .ref (ad 0)), (1, .int v1), (2, .int v2), (3, .long v3), (5, .int v5)] → Gl p l e us_X7_shapley ({ frames := 2, cells := 0, slots := 0, locals := 45 } : Room) s m [.ref (ad 0), .int p0, .int p1] below meth c D cy 27 shM ad A r σ' H locs (F0 m 30 ls []) := by
    intro f
    unfold t_X7_shapley_30
    refine loopG_ind (fun (T : Int32 → Int32 → Int64 → Int32 → Hp → Option (Int64 × Hp)) => ∀ (v1 : Int32) (v2 : Int32) (v3 : Int64) (v5 : Int32) (σ : Hp), T v1 v2 v3 v5 σ = some (r, σ') → ∀ (H : Heap) (locs : List Loc), Wd D cy 27 shM ad A s.heap σ H locs → ∀ ls : Array Slot, lv_has ls 7 [(0, .ref (ad 0)), (1, .int v1), (2, .int v2), (3, .long v3), (5, .int v5)] → Gl p l e us_X7_shapley ({ frames := 2, cells := 0, slots := 0, locals := 45 } : Room) s m [.ref (ad 0), .int p0, .int p1] below meth c D cy 27 shM ad A r σ' H locs (F0 m 30 ls [])) ?_ ?_ f
    · intro v1 v2 v3 v5 σ h; exact absurd h (by simp)
    · intro k30 ih30
      have J91 : ∀ (v1 : Int32) (v2 : Int32) (v3 : Int64) (v5 : Int32) (σ : Hp), t_X7_shapley_91 N k30 v1 v2 v3 v5 σ = some (r, σ') → ∀ (H : Heap) (locs : List Loc), Wd D cy 27 shM ad A s.heap σ H locs → ∀ ls : Array Slot, lv_has ls 7 [(0, .ref (ad 0)), (1, .int v1), (2, .int v2), (3, .long v3), (5, .int v5)] → Gl p l e us_X7_shapley ({ frames := 2, cells := 0, slots := 0, locals := 45 } : Room) s m [.ref (ad 0), .int p0, .int p1] below meth c D cy 27 shM ad A r σ' H locs (F0 m 91 ls []) := by
        intro v1 v2 v3 v5 σ h H locs hW ls hl
        unfold t_X7_shapley_91 at h
        replace h := bx h
        obtain ⟨x1, ex1, h⟩ := h
        refine lv_iinc (v := x1) (lv' := [(5, .int x1), (0, .ref (ad 0)), (1, .int v1), (2, .int v2), (3, .long v3)]) hx hb dX7_shapley_91 hl (k := 4) rfl (by rw [ex1]; rfl) (by decide) rfl (fun ls hln => ?_)
        replace hl := hln
        clear hln ex1
        refine lv_goto (tgt := 30) hx hb dX7_shapley_94 (by decide) ?_
        exact ih30 _ _ _ _ _ h _ _ hW _ (lv_sub hl [1, 2, 3, 4, 0] rfl)
      intro v1 v2 v3 v5 σ h H locs hW ls hl
      refine lv_iload hx hb dX7_shapley_30 (lv_at hl 4 rfl) ?_
      refine lv_bipush (v := 64) hx hb dX7_shapley_32 (by decide) ?_
      refine lv_icmp_ge (tgt := 97) hx hb dX7_shapley_34 (by decide) (fun cq => ?_) (fun cq => ?_)
      · replace h := tp cq h
        refine lv_lload_n hx hb dX7_shapley_97 rfl (lv_at hl 3 rfl) ?_
        refine lv_ldc2 hx hb hown (hts _ wd_477) dX7_shapley_98 ?_
        refine lv_iload_n hx hb dX7_shapley_101 rfl (lv_at hl 2 rfl) ?_
        replace h := bd h
        obtain ⟨r2, hc, h⟩ := h
        refine r_calll hW (va_runS (As := [.long v3, .long (720), .int v2]) (rest := []) hC.1 (c_X7_lowest l D cy ad A N _ _ _ _ _ hc) (va_cwS 3 hts (gdS wd_442 wd_443 wd_300 wd_441) rfl rfl rfl (by decide +kernel) ⟨Nat.le_of_ble_eq_true rfl, Nat.le_of_ble_eq_true rfl⟩) (r_preS hC hW) rfl rfl hl.1 rfl (lv_room (Nat.le_of_ble_eq_true rfl)) dX7_shapley_102 ⟨Nat.zero_le _, Nat.zero_le _⟩) (fun H locs hWn => ?_)
        replace hW := hWn
        clear hWn hc
        exact r_lretW hC hr hlocks h hW dX7_shapley_105
      · replace h := tn cq h
        refine lv_iload hx hb dX7_shapley_37 (lv_at hl 4 rfl) ?_
        refine lv_iload_n hx hb dX7_shapley_39 rfl (lv_at hl 1 rfl) ?_
        refine lv_ishr hx hb dX7_shapley_40 ?_
        refine lv_iconst (v := 1) hx hb dX7_shapley_41 (by decide) ?_
        refine lv_iand hx hb dX7_shapley_42 ?_
        refine lv_if_ne (tgt := 91) hx hb dX7_shapley_43 (by decide) (fun cq => ?_) (fun cq => ?_)
        · replace h := tn cq h
          exact J91 _ _ _ _ _ h _ _ hW _ (lv_sub hl [0, 1, 2, 3, 4] rfl)
        · replace h := tp cq h
          refine lv_iload hx hb dX7_shapley_46 (lv_at hl 4 rfl) ?_
          replace h := bd h
          obtain ⟨r3, hc, h⟩ := h
          refine r_calli hW (va_runS (As := [.int v5]) (rest := []) hC.1 (c_X7_ones l D cy ad A N _ _ _ hc) (va_cwS 1 hts (gdS wd_463 wd_464 wd_300 wd_462) rfl rfl rfl (by decide +kernel) ⟨Nat.le_of_ble_eq_true rfl, Nat.le_of_ble_eq_true rfl⟩) (r_preS hC hW) rfl rfl hl.1 rfl (lv_room (Nat.le_of_ble_eq_true rfl)) dX7_shapley_48 ⟨Nat.zero_le _, Nat.zero_le _⟩) (fun H locs hWn => ?_)
          replace hW := hWn
          clear hWn hc
          replace h := bd h
          obtain ⟨r4, hc, h⟩ := h
          refine r_calli hW (va_runS (As := [.int r3]) (rest := []) hC.1 (c_X7_rowsOf l D cy ad A N _ _ _ hc) (va_cwS 1 hts (gdS wd_479 wd_480 wd_300 wd_478) rfl rfl rfl (by decide +kernel) ⟨Nat.le_of_ble_eq_true rfl, Nat.le_of_ble_eq_true rfl⟩) (r_preS hC hW) rfl rfl hl.1 rfl (lv_room (Nat.le_of_ble_eq_true rfl)) dX7_shapley_51 ⟨Nat.zero_le _, Nat.zero_le _⟩) (fun H locs hWn => ?_)
          replace hW := hWn
          clear hWn hc
          refine lv_iconst (v := 5) hx hb dX7_shapley_54 (by decide) ?_
          refine lv_iload hx hb dX7_shapley_55 (lv_at hl 4 rfl) ?_
          replace h := bd h
          obtain ⟨r5, hc, h⟩ := h
          refine r_calli hW (va_runS (As := [.int v5]) (rest := [.int 5, .int r4]) hC.1 (c_X7_ones l D cy ad A N _ _ _ hc) (va_cwS 1 hts (gdS wd_463 wd_464 wd_300 wd_462) rfl rfl rfl (by decide +kernel) ⟨Nat.le_of_ble_eq_true rfl, Nat.le_of_ble_eq_true rfl⟩) (r_preS hC hW) rfl rfl hl.1 rfl (lv_room (Nat.le_of_ble_eq_true rfl)) dX7_shapley_57 ⟨Nat.zero_le _, Nat.zero_le _⟩) (fun H locs hWn => ?_)
          replace hW := hWn
          clear hWn hc
          refine lv_isub hx hb dX7_shapley_60 ?_
          replace h := bd h
          obtain ⟨r6, hc, h⟩ := h
          refine r_calli hW (va_runS (As := [.int (5 - r5)]) (rest := [.int r4]) hC.1 (c_X7_rowsOf l D cy ad A N _ _ _ hc) (va_cwS 1 hts (gdS wd_479 wd_480 wd_300 wd_478) rfl rfl rfl (by decide +kernel) ⟨Nat.le_of_ble_eq_true rfl, Nat.le_of_ble_eq_true rfl⟩) (r_preS hC hW) rfl rfl hl.1 rfl (lv_room (Nat.le_of_ble_eq_true rfl)) dX7_shapley_61 ⟨Nat.zero_le _, Nat.zero_le _⟩) (fun H locs hWn => ?_)
          replace hW := hWn
          clear hWn hc
          refine lv_imul hx hb dX7_shapley_64 ?_
          replace h := bx h
          obtain ⟨x7, ex7, h⟩ := h
          refine tope ex7 ?_
          clear ex7
          refine lv_istore (lv' := [(6, .int x7), (0, .ref (ad 0)), (1, .int v1), (2, .int v2), (3, .long v3), (5, .int v5)]) hx hb dX7_shapley_65 hl (by decide) rfl (fun ls hln => ?_)
          replace hl := hln
          clear hln
          refine lv_lload_n hx hb dX7_shapley_67 rfl (lv_at hl 4 rfl) ?_
          refine lv_iload hx hb dX7_shapley_68 (lv_at hl 0 rfl) ?_
          refine lv_aload_n hx hb dX7_shapley_70 rfl (lv_at hl 1 rfl) ?_
          refine lv_iload hx hb dX7_shapley_71 (lv_at hl 5 rfl) ?_
          refine lv_iconst (v := 1) hx hb dX7_shapley_73 (by decide) ?_
          refine lv_iload_n hx hb dX7_shapley_74 rfl (lv_at hl 2 rfl) ?_
          refine lv_ishl hx hb dX7_shapley_75 ?_
          refine lv_ior hx hb dX7_shapley_76 ?_
          replace h := ob h
          obtain ⟨r8, σ9, hc, h⟩ := h
          refine r_calli hW (va_runV (As := [.int (v5 ||| (1 <<< (v1 &&& 31)))]) (rest := [.int x7, .long v3]) hC.1 (c_X7_findWorth l D cy ad A N _ _ _ _ hc) (cwV 1 hts (gdV wd_435 wd_436 wd_437 wd_300 wd_434) rfl rfl rfl (by decide +kernel) ⟨Nat.le_of_ble_eq_true rfl, Nat.le_of_ble_eq_true rfl⟩) (r_preV hC hW (Nat.le_of_ble_eq_true rfl) rfl rfl) rfl rfl hl.1 rfl (lv_room (Nat.le_of_ble_eq_true rfl)) dX7_shapley_77 ⟨Nat.zero_le _, Nat.zero_le _⟩) (fun H locs hWn => ?_)
          replace hW := hWn
          clear hWn hc
          refine lv_aload_n hx hb dX7_shapley_80 rfl (lv_at hl 1 rfl) ?_
          refine lv_iload hx hb dX7_shapley_81 (lv_at hl 5 rfl) ?_
          replace h := ob h
          obtain ⟨r10, σ11, hc, h⟩ := h
          refine r_calli hW (va_runV (As := [.int v5]) (rest := [.int r8, .int x7, .long v3]) hC.1 (c_X7_findWorth l D cy ad A N _ _ _ _ hc) (cwV 1 hts (gdV wd_435 wd_436 wd_437 wd_300 wd_434) rfl rfl rfl (by decide +kernel) ⟨Nat.le_of_ble_eq_true rfl, Nat.le_of_ble_eq_true rfl⟩) (r_preV hC hW (Nat.le_of_ble_eq_true rfl) rfl rfl) rfl rfl hl.1 rfl (lv_room (Nat.le_of_ble_eq_true rfl)) dX7_shapley_83 ⟨Nat.zero_le _, Nat.zero_le _⟩) (fun H locs hWn => ?_)
          replace hW := hWn
          clear hWn hc
          refine lv_isub hx hb dX7_shapley_86 ?_
          refine lv_imul hx hb dX7_shapley_87 ?_
          refine lv_i2l hx hb dX7_shapley_88 rfl ?_
          refine lv_ladd hx hb dX7_shapley_89 ?_
          replace h := bx h
          obtain ⟨x12, ex12, h⟩ := h
          refine topel ex12 ?_
          clear ex12
          refine lv_lstore_n (lv' := [(3, .long x12), (6, .int x7), (0, .ref (ad 0)), (1, .int v1), (2, .int v2), (5, .int v5)]) hx hb dX7_shapley_90 rfl hl (by decide) rfl (fun ls hln => ?_)
          replace hl := hln
          clear hln
          exact J91 _ _ _ _ _ h _ _ hW _ (lv_sub hl [2, 3, 4, 0, 5] rfl)
  refine lv_iload_n hx hb dX7_shapley_0 rfl (lv_at hl 1 rfl) ?_
  replace h := bd h
  obtain ⟨r13, hc, h⟩ := h
  refine r_calli hW (va_runS (As := [.int p0]) (rest := []) hC.1 (c_X7_isHouse l D cy ad A _ _ _ hc) (va_cwS 1 hts (gdS wd_313 wd_314 wd_300 wd_312) rfl rfl rfl (by decide +kernel) ⟨Nat.le_of_ble_eq_true rfl, Nat.le_of_ble_eq_true rfl⟩) (r_preS hC hW) rfl rfl hl.1 rfl (lv_room (Nat.le_of_ble_eq_true rfl)) dX7_shapley_1 ⟨Nat.zero_le _, Nat.zero_le _⟩) (fun H locs hWn => ?_)
  replace hW := hWn
  clear hWn hc
  refine lv_if_ne (tgt := 11) hx hb dX7_shapley_4 (by decide) (fun cq => ?_) (fun cq => ?_)
  · replace h := tn cq h
    refine lv_iload_n hx hb dX7_shapley_11 rfl (lv_at hl 2 rfl) ?_
    refine lv_i2l hx hb dX7_shapley_12 rfl ?_
    refine lv_lconst (v := 0) hx hb dX7_shapley_13 (by decide) ?_
    refine lv_lconst (v := 1) hx hb dX7_shapley_14 (by decide) ?_
    replace h := bd h
    obtain ⟨r14, hc, h⟩ := h
    refine r_calli hW (va_runS (As := [.long (p1.toInt64), .long 0, .long 1]) (rest := []) hC.1 (c_X7_in l D cy ad A _ _ _ _ _ hc) (va_cwS 3 hts (gdS wd_298 wd_299 wd_300 wd_297) rfl rfl rfl (by decide +kernel) ⟨Nat.le_of_ble_eq_true rfl, Nat.le_of_ble_eq_true rfl⟩) (r_preS hC hW) rfl rfl hl.1 rfl (lv_room (Nat.le_of_ble_eq_true rfl)) dX7_shapley_15 ⟨Nat.zero_le _, Nat.zero_le _⟩) (fun H locs hWn => ?_)
    replace hW := hWn
    clear hWn hc
    refine lv_if_ne (tgt := 25) hx hb dX7_shapley_18 (by decide) (fun cq => ?_) (fun cq => ?_)
    · replace h := tn cq h
      refine lv_lconst (v := 0) hx hb dX7_shapley_25 (by decide) ?_
      refine lv_lstore_n (lv' := [(3, .long 0), (0, .ref (ad 0)), (1, .int p0), (2, .int p1)]) hx hb dX7_shapley_26 rfl hl (by decide) rfl (fun ls hln => ?_)
      replace hl := hln
      clear hln
      refine lv_iconst (v := 0) hx hb dX7_shapley_27 (by decide) ?_
      refine lv_istore (lv' := [(5, .int 0), (3, .long 0), (0, .ref (ad 0)), (1, .int p0), (2, .int p1)]) hx hb dX7_shapley_28 hl (by decide) rfl (fun ls hln => ?_)
      replace hl := hln
      clear hln
      exact L30 _ _ _ _ _ _ h _ _ hW _ (lv_sub hl [2, 3, 4, 1, 0] rfl)
    · replace h := tp cq h
      refine lv_ldc2 hx hb hown (hts _ wd_445) dX7_shapley_21 ?_
      exact r_lretW hC hr hlocks h hW dX7_shapley_24
  · replace h := tp cq h
    refine lv_ldc2 hx hb hown (hts _ wd_481) dX7_shapley_7 ?_
    exact r_lretW hC hr hlocks h hW dX7_shapley_10
