set_option maxHeartbeats 4000000 in
set_option maxRecDepth 100000 in
theorem c_X7_countFit (l : Launch) (D : va_G) (cy : ClassId × ClassId) (ad : Nat → Nat) (A : Nat → Prop) (N : Nat) (σ : Hp) (σ' : Hp) (h : t_X7_countFit N σ = some σ') : Cv l yX7_countFit us_X7_countFit ({ frames := 0, cells := 0, slots := 0, locals := 0 } : Room) D cy 27 shM ad A [.ref (ad 0)] σ σ' := by
  unfold t_X7_countFit at h
  refine Met.ofW (cc := cX7_countFit) (maxL := 3) (ret := none) (by decide) rfl ?_
  intro p e s m args below meth c s₁ B hml hv
  obtain ⟨rfl, hP, hK, hD, hA, hN⟩ := hv
  have hx := B.exec
  have hb := B.bytes
  have hr := B.returns
  have hlocks := B.notSynchronized
  have hts : ∀ w ∈ wsU, w.before _ s = true := fun w h => atoms_spec (ws := us_X7_countFit) B.pre w (List.mem_cons_of_mem _ h)
  have hown : s.vm.findClass RX7 = some m.cls := findClass_of_methodNamed B.named
  have hC : Cx p m c cX7_countFit 3 s _ wsU RX7 D cy := ⟨⟨hx, hb, hml, hown, hts⟩, hK, hN⟩
  have hW : Wd D cy 27 shM ad A s.heap σ s.heap [] := ⟨hP, hD, va_S.rf, hA⟩
  have hl := lv_entry ([.ref (ad 0)]) (n := 3) (Nat.le_of_ble_eq_true rfl)
  rw [lg_entry_eq]
  generalize (lg_sl ([.ref (ad 0)]) ++ List.replicate (3 - (lg_sl ([.ref (ad 0)])).length) Slot.unset).toArray = ls at hl ⊢
  have hl : lv_has ls 3 [(0, .ref (ad 0))] := hl
  have L2 : ∀ (f : Nat) (v1 : Int32) (σ : Hp), t_X7_countFit_2 N f v1 σ = some σ' → ∀ (H : Heap) (locs : List Loc), Wd D cy 27 shM ad A s.heap σ H locs → ∀ ls : Array Slot, lv_has ls 3 [(0, .ref (ad 0)), (1, .int v1)] → Gv p l e us_X7_countFit ({ frames := 0, cells := 0, slots := 0, locals := 0 } : Room) s m [.ref (ad 0)] below meth c D cy 27 shM ad A σ' H locs (F0 m 2 ls []) := by
    intro f
    unfold t_X7_countFit_2
    refine loopG_ind (fun (T : Int32 → Hp → Option Hp) => ∀ (v1 : Int32) (σ : Hp), T v1 σ = some σ' → ∀ (H : Heap) (locs : List Loc), Wd D cy 27 shM ad A s.heap σ H locs → ∀ ls : Array Slot, lv_has ls 3 [(0, .ref (ad 0)), (1, .int v1)] → Gv p l e us_X7_countFit ({ frames := 0, cells := 0, slots := 0, locals := 0 } : Room) s m [.ref (ad 0)] below meth c D cy 27 shM ad A σ' H locs (F0 m 2 ls [])) ?_ ?_ f
    · intro v1 σ h; exact absurd h (by simp)
    · intro k2 ih2
      have L62 : ∀ (f : Nat) (v1 : Int32) (v2 : Int32) (σ : Hp), t_X7_countFit_62 N k2 f v1 v2 σ = some σ' → ∀ (H : Heap) (locs : List Loc), Wd D cy 27 shM ad A s.heap σ H locs → ∀ ls : Array Slot, lv_has ls 3 [(0, .ref (ad 0)), (1, .int v1), (2, .int v2)] → Gv p l e us_X7_countFit ({ frames := 0, cells := 0, slots := 0, locals := 0 } : Room) s m [.ref (ad 0)] below meth c D cy 27 shM ad A σ' H locs (F0 m 62 ls []) := by
        intro f
        unfold t_X7_countFit_62
        refine loopG_ind (fun (T : Int32 → Int32 → Hp → Option Hp) => ∀ (v1 : Int32) (v2 : Int32) (σ : Hp), T v1 v2 σ = some σ' → ∀ (H : Heap) (locs : List Loc), Wd D cy 27 shM ad A s.heap σ H locs → ∀ ls : Array Slot, lv_has ls 3 [(0, .ref (ad 0)), (1, .int v1), (2, .int v2)] → Gv p l e us_X7_countFit ({ frames := 0, cells := 0, slots := 0, locals := 0 } : Room) s m [.ref (ad 0)] below meth c D cy 27 shM ad A σ' H locs (F0 m 62 ls [])) ?_ ?_ f
        · intro v1 v2 σ h; exact absurd h (by simp)
        · intro k62 ih62
          intro v1 v2 σ h H locs hW ls hl
          refine lv_iload_n hx hb dX7_countFit_62 rfl (lv_at hl 2 rfl) ?_
          refine lv_aload_n hx hb dX7_countFit_63 rfl (lv_at hl 0 rfl) ?_
          refine r_geti hC hW 0 (Nat.le_of_ble_eq_true rfl) rfl rfl rfl (by decide) inUX7 (hts _ wd_294) rfl dX7_countFit_64 ?_
          refine lv_icmp_ge (tgt := 101) hx hb dX7_countFit_67 (by decide) (fun cq => ?_) (fun cq => ?_)
          · replace h := tp cq h
            replace h := bx h
            obtain ⟨x1, ex1, h⟩ := h
            refine lv_iinc (v := x1) (lv' := [(1, .int x1), (0, .ref (ad 0)), (2, .int v2)]) hx hb dX7_countFit_101 hl (k := 1) rfl (by rw [ex1]; rfl) (by decide) rfl (fun ls hln => ?_)
            replace hl := hln
            clear hln ex1
            refine lv_goto (tgt := 2) hx hb dX7_countFit_104 (by decide) ?_
            exact ih2 _ _ h _ _ hW _ (lv_sub hl [1, 0] rfl)
          · replace h := tn cq h
            refine lv_aload_n hx hb dX7_countFit_70 rfl (lv_at hl 0 rfl) ?_
            refine r_getr hC hW 36 (Nat.le_of_ble_eq_true rfl) rfl rfl rfl (by decide) inUX7 (hts _ wd_354) rfl dX7_countFit_71 ?_
            refine lv_bipush (v := 7) hx hb dX7_countFit_74 (by decide) ?_
            refine lv_aload_n hx hb dX7_countFit_76 rfl (lv_at hl 0 rfl) ?_
            refine r_getr hC hW 22 (Nat.le_of_ble_eq_true rfl) rfl rfl rfl (by decide) inUX7 (hts _ wd_324) rfl dX7_countFit_77 ?_
            refine lv_iload_n hx hb dX7_countFit_80 rfl (lv_at hl 1 rfl) ?_
            replace h := og h
            obtain ⟨hi, h⟩ := h
            refine r_ald hC hW (Nat.le_of_ble_eq_true rfl) rfl hi dX7_countFit_81 ?_
            refine lv_imul hx hb dX7_countFit_82 ?_
            refine lv_aload_n hx hb dX7_countFit_83 rfl (lv_at hl 0 rfl) ?_
            refine r_getr hC hW 22 (Nat.le_of_ble_eq_true rfl) rfl rfl rfl (by decide) inUX7 (hts _ wd_324) rfl dX7_countFit_84 ?_
            refine lv_iload_n hx hb dX7_countFit_87 rfl (lv_at hl 2 rfl) ?_
            replace h := og h
            obtain ⟨hi, h⟩ := h
            refine r_ald hC hW (Nat.le_of_ble_eq_true rfl) rfl hi dX7_countFit_88 ?_
            refine lv_iadd hx hb dX7_countFit_89 ?_
            refine lv_dup2_11 hx hb dX7_countFit_90 rfl rfl ?_
            replace h := og h
            obtain ⟨hi, h⟩ := h
            refine r_ald hC hW (Nat.le_of_ble_eq_true rfl) rfl hi dX7_countFit_91 ?_
            refine lv_iconst (v := 1) hx hb dX7_countFit_92 (by decide) ?_
            refine lv_iadd hx hb dX7_countFit_93 ?_
            replace h := og h
            obtain ⟨hi, h⟩ := h
            refine r_ast hC hW (Nat.le_of_ble_eq_true rfl) rfl hi dX7_countFit_94 (fun σ2 eσ2 H locs hWn => ?_)
            replace h := bn eσ2 h
            replace hW := hWn
            clear hWn eσ2
            replace h := bx h
            obtain ⟨x3, ex3, h⟩ := h
            refine lv_iinc (v := x3) (lv' := [(2, .int x3), (0, .ref (ad 0)), (1, .int v1)]) hx hb dX7_countFit_95 hl (k := 2) rfl (by rw [ex3]; rfl) (by decide) rfl (fun ls hln => ?_)
            replace hl := hln
            clear hln ex3
            refine lv_goto (tgt := 62) hx hb dX7_countFit_98 (by decide) ?_
            exact ih62 _ _ _ h _ _ hW _ (lv_sub hl [1, 2, 0] rfl)
      have J37 : ∀ (v1 : Int32) (s1 : Int32) (s2 : Int32) (σ : Hp), t_X7_countFit_37 N k2 v1 s1 s2 σ = some σ' → ∀ (H : Heap) (locs : List Loc), Wd D cy 27 shM ad A s.heap σ H locs → ∀ ls : Array Slot, lv_has ls 3 [(0, .ref (ad 0)), (1, .int v1)] → Gv p l e us_X7_countFit ({ frames := 0, cells := 0, slots := 0, locals := 0 } : Room) s m [.ref (ad 0)] below meth c D cy 27 shM ad A σ' H locs (F0 m 37 ls [.int s2, .int s1, .ref (ad 21)]) := by
        intro v1 s1 s2 σ h H locs hW ls hl
        unfold t_X7_countFit_37 at h
        replace h := og h
        obtain ⟨hi, h⟩ := h
        refine r_ast hC hW (Nat.le_of_ble_eq_true rfl) rfl hi dX7_countFit_37 (fun σ4 eσ4 H locs hWn => ?_)
        replace h := bn eσ4 h
        replace hW := hWn
        clear hWn eσ4
        refine lv_aload_n hx hb dX7_countFit_38 rfl (lv_at hl 0 rfl) ?_
        refine r_getr hC hW 35 (Nat.le_of_ble_eq_true rfl) rfl rfl rfl (by decide) inUX7 (hts _ wd_355) rfl dX7_countFit_39 ?_
        refine lv_bipush (v := 7) hx hb dX7_countFit_42 (by decide) ?_
        refine lv_aload_n hx hb dX7_countFit_44 rfl (lv_at hl 0 rfl) ?_
        refine r_getr hC hW 22 (Nat.le_of_ble_eq_true rfl) rfl rfl rfl (by decide) inUX7 (hts _ wd_324) rfl dX7_countFit_45 ?_
        refine lv_iload_n hx hb dX7_countFit_48 rfl (lv_at hl 1 rfl) ?_
        replace h := og h
        obtain ⟨hi, h⟩ := h
        refine r_ald hC hW (Nat.le_of_ble_eq_true rfl) rfl hi dX7_countFit_49 ?_
        refine lv_imul hx hb dX7_countFit_50 ?_
        refine lv_iload_n hx hb dX7_countFit_51 rfl (lv_at hl 1 rfl) ?_
        refine lv_iadd hx hb dX7_countFit_52 ?_
        refine lv_dup2_11 hx hb dX7_countFit_53 rfl rfl ?_
        replace h := og h
        obtain ⟨hi, h⟩ := h
        refine r_ald hC hW (Nat.le_of_ble_eq_true rfl) rfl hi dX7_countFit_54 ?_
        refine lv_iconst (v := 1) hx hb dX7_countFit_55 (by decide) ?_
        refine lv_iadd hx hb dX7_countFit_56 ?_
        replace h := og h
        obtain ⟨hi, h⟩ := h
        refine r_ast hC hW (Nat.le_of_ble_eq_true rfl) rfl hi dX7_countFit_57 (fun σ5 eσ5 H locs hWn => ?_)
        replace h := bn eσ5 h
        replace hW := hWn
        clear hWn eσ5
        refine lv_iload_n hx hb dX7_countFit_58 rfl (lv_at hl 1 rfl) ?_
        refine lv_iconst (v := 1) hx hb dX7_countFit_59 (by decide) ?_
        refine lv_iadd hx hb dX7_countFit_60 ?_
        replace h := bx h
        obtain ⟨x6, ex6, h⟩ := h
        refine tope ex6 ?_
        clear ex6
        refine lv_istore_n (lv' := [(2, .int x6), (0, .ref (ad 0)), (1, .int v1)]) hx hb dX7_countFit_61 rfl hl (by decide) rfl (fun ls hln => ?_)
        replace hl := hln
        clear hln
        exact L62 _ _ _ _ h _ _ hW _ (lv_sub hl [1, 2, 0] rfl)
      intro v1 σ h H locs hW ls hl
      refine lv_iload_n hx hb dX7_countFit_2 rfl (lv_at hl 1 rfl) ?_
      refine lv_aload_n hx hb dX7_countFit_3 rfl (lv_at hl 0 rfl) ?_
      refine r_geti hC hW 0 (Nat.le_of_ble_eq_true rfl) rfl rfl rfl (by decide) inUX7 (hts _ wd_294) rfl dX7_countFit_4 ?_
      refine lv_icmp_ge (tgt := 107) hx hb dX7_countFit_7 (by decide) (fun cq => ?_) (fun cq => ?_)
      · replace h := tp cq h
        refine lv_aload_n hx hb dX7_countFit_107 rfl (lv_at hl 0 rfl) ?_
        refine lv_dup hx hb dX7_countFit_108 rfl ?_
        refine r_geti hC hW 33 (Nat.le_of_ble_eq_true rfl) rfl rfl rfl (by decide) inUX7 (hts _ wd_356) rfl dX7_countFit_109 ?_
        refine lv_iconst (v := 1) hx hb dX7_countFit_112 (by decide) ?_
        refine lv_iadd hx hb dX7_countFit_113 ?_
        refine r_put hC hW 33 (Nat.le_of_ble_eq_true rfl) rfl rfl rfl (by decide) inUX7 tyX7 tyX7_ok nmX7 (hts _ wd_356) rfl rfl ⟨rfl, rfl⟩ dX7_countFit_114 (fun σ7 eσ7 H locs hWn => ?_)
        replace h := bn eσ7 h
        replace hW := hWn
        clear hWn eσ7
        exact r_vretW hC hr hlocks h hW dX7_countFit_117
      · replace h := tn cq h
        refine lv_aload_n hx hb dX7_countFit_10 rfl (lv_at hl 0 rfl) ?_
        refine r_getr hC hW 34 (Nat.le_of_ble_eq_true rfl) rfl rfl rfl (by decide) inUX7 (hts _ wd_357) rfl dX7_countFit_11 ?_
        refine lv_iload_n hx hb dX7_countFit_14 rfl (lv_at hl 1 rfl) ?_
        refine lv_aload_n hx hb dX7_countFit_15 rfl (lv_at hl 0 rfl) ?_
        refine r_geti hC hW 33 (Nat.le_of_ble_eq_true rfl) rfl rfl rfl (by decide) inUX7 (hts _ wd_356) rfl dX7_countFit_16 ?_
        refine lv_if_ne (tgt := 31) hx hb dX7_countFit_19 (by decide) (fun cq => ?_) (fun cq => ?_)
        · replace h := tn cq h
          refine lv_aload_n hx hb dX7_countFit_31 rfl (lv_at hl 0 rfl) ?_
          refine r_getr hC hW 34 (Nat.le_of_ble_eq_true rfl) rfl rfl rfl (by decide) inUX7 (hts _ wd_357) rfl dX7_countFit_32 ?_
          refine lv_iload_n hx hb dX7_countFit_35 rfl (lv_at hl 1 rfl) ?_
          replace h := og h
          obtain ⟨hi, h⟩ := h
          refine r_ald hC hW (Nat.le_of_ble_eq_true rfl) rfl hi dX7_countFit_36 ?_
          exact J37 _ _ _ _ h _ _ hW _ (lv_sub hl [0, 1] rfl)
        · replace h := tp cq h
          refine lv_aload_n hx hb dX7_countFit_22 rfl (lv_at hl 0 rfl) ?_
          refine r_getr hC hW 22 (Nat.le_of_ble_eq_true rfl) rfl rfl rfl (by decide) inUX7 (hts _ wd_324) rfl dX7_countFit_23 ?_
          refine lv_iload_n hx hb dX7_countFit_26 rfl (lv_at hl 1 rfl) ?_
          replace h := og h
          obtain ⟨hi, h⟩ := h
          refine r_ald hC hW (Nat.le_of_ble_eq_true rfl) rfl hi dX7_countFit_27 ?_
          refine lv_goto (tgt := 37) hx hb dX7_countFit_28 (by decide) ?_
          exact J37 _ _ _ _ h _ _ hW _ (lv_sub hl [0, 1] rfl)
  refine lv_iconst (v := 0) hx hb dX7_countFit_0 (by decide) ?_
  refine lv_istore_n (lv' := [(1, .int 0), (0, .ref (ad 0))]) hx hb dX7_countFit_1 rfl hl (by decide) rfl (fun ls hln => ?_)
  replace hl := hln
  clear hln
  exact L2 _ _ _ h _ _ hW _ (lv_sub hl [1, 0] rfl)
set_option maxHeartbeats 4000000 in
set_option maxRecDepth 100000 in
theorem c_X7_change (l : Launch) (D : va_G) (cy : ClassId × ClassId) (ad : Nat → Nat) (A : Nat → Prop) (p0 : Int32) (p1 : Int32) (σ : Hp) (σ' : Hp) (h : t_X7_change p0 p1 σ = some σ') : Cv l yX7_change us_X7_change ({ frames := 0, cells := 0, slots := 0, locals := 0 } : Room) D cy 27 shM ad A [.ref (ad 0), .int p0, .int p1] σ σ' := by
  unfold t_X7_change at h
  refine Met.ofW (cc := cX7_change) (maxL := 4) (ret := none) (by decide) rfl ?_
  intro p e s m args below meth c s₁ B hml hv
  obtain ⟨rfl, hP, hK, hD, hA, hN⟩ := hv
  have hx := B.exec
  have hb := B.bytes
  have hr := B.returns
  have hlocks := B.notSynchronized
  have hts : ∀ w ∈ wsU, w.before _ s = true := fun w h => atoms_spec (ws := us_X7_change) B.pre w (List.mem_cons_of_mem _ h)
  have hown : s.vm.findClass RX7 = some m.cls := findClass_of_methodNamed B.named
  have hC : Cx p m c cX7_change 4 s _ wsU RX7 D cy := ⟨⟨hx, hb, hml, hown, hts⟩, hK, hN⟩
  have hW : Wd D cy 27 shM ad A s.heap σ s.heap [] := ⟨hP, hD, va_S.rf, hA⟩
  have hl := lv_entry ([.ref (ad 0), .int p0, .int p1]) (n := 4) (Nat.le_of_ble_eq_true rfl)
  rw [lg_entry_eq]
  generalize (lg_sl ([.ref (ad 0), .int p0, .int p1]) ++ List.replicate (4 - (lg_sl ([.ref (ad 0), .int p0, .int p1])).length) Slot.unset).toArray = ls at hl ⊢
  have hl : lv_has ls 4 [(0, .ref (ad 0)), (1, .int p0), (2, .int p1)] := hl
  refine lv_aload_n hx hb dX7_change_0 rfl (lv_at hl 0 rfl) ?_
  refine r_getr hC hW 22 (Nat.le_of_ble_eq_true rfl) rfl rfl rfl (by decide) inUX7 (hts _ wd_324) rfl dX7_change_1 ?_
  refine lv_iload_n hx hb dX7_change_4 rfl (lv_at hl 1 rfl) ?_
  replace h := og h
  obtain ⟨hi, h⟩ := h
  refine r_ald hC hW (Nat.le_of_ble_eq_true rfl) rfl hi dX7_change_5 ?_
  replace h := bx h
  obtain ⟨x1, ex1, h⟩ := h
  refine tope ex1 ?_
  clear ex1
  refine lv_istore_n (lv' := [(3, .int x1), (0, .ref (ad 0)), (1, .int p0), (2, .int p1)]) hx hb dX7_change_6 rfl hl (by decide) rfl (fun ls hln => ?_)
  replace hl := hln
  clear hln
  refine lv_aload_n hx hb dX7_change_7 rfl (lv_at hl 1 rfl) ?_
  refine r_getr hC hW 22 (Nat.le_of_ble_eq_true rfl) rfl rfl rfl (by decide) inUX7 (hts _ wd_324) rfl dX7_change_8 ?_
  refine lv_iload_n hx hb dX7_change_11 rfl (lv_at hl 2 rfl) ?_
  refine lv_aload_n hx hb dX7_change_12 rfl (lv_at hl 1 rfl) ?_
  refine r_getr hC hW 22 (Nat.le_of_ble_eq_true rfl) rfl rfl rfl (by decide) inUX7 (hts _ wd_324) rfl dX7_change_13 ?_
  refine lv_iload_n hx hb dX7_change_16 rfl (lv_at hl 3 rfl) ?_
  replace h := og h
  obtain ⟨hi, h⟩ := h
  refine r_ald hC hW (Nat.le_of_ble_eq_true rfl) rfl hi dX7_change_17 ?_
  replace h := og h
  obtain ⟨hi, h⟩ := h
  refine r_ast hC hW (Nat.le_of_ble_eq_true rfl) rfl hi dX7_change_18 (fun σ2 eσ2 H locs hWn => ?_)
  replace h := bn eσ2 h
  replace hW := hWn
  clear hWn eσ2
  refine lv_aload_n hx hb dX7_change_19 rfl (lv_at hl 1 rfl) ?_
  refine r_getr hC hW 22 (Nat.le_of_ble_eq_true rfl) rfl rfl rfl (by decide) inUX7 (hts _ wd_324) rfl dX7_change_20 ?_
  refine lv_iload_n hx hb dX7_change_23 rfl (lv_at hl 3 rfl) ?_
  refine lv_iload_n hx hb dX7_change_24 rfl (lv_at hl 0 rfl) ?_
  replace h := og h
  obtain ⟨hi, h⟩ := h
  refine r_ast hC hW (Nat.le_of_ble_eq_true rfl) rfl hi dX7_change_25 (fun σ3 eσ3 H locs hWn => ?_)
  replace h := bn eσ3 h
  replace hW := hWn
  clear hWn eσ3
  exact r_vretW hC hr hlocks h hW dX7_change_26
set_option maxHeartbeats 4000000 in
set_option maxRecDepth 100000 in
theorem c_X7_nextRow (l : Launch) (D : va_G) (cy : ClassId × ClassId) (ad : Nat → Nat) (A : Nat → Prop) (N : Nat) (σ : Hp) (r : Int32) (σ' : Hp) (h : t_X7_nextRow N σ = some (r, σ')) : Ci l yX7_nextRow us_X7_nextRow ({ frames := 1, cells := 0, slots := 0, locals := 23 } : Room) D cy 27 shM ad A [.ref (ad 0)] σ r σ' := by
  unfold t_X7_nextRow at h
  refine Met.ofW (cc := cX7_nextRow) (maxL := 5) (ret := (some .boolean)) (by decide) rfl ?_
  intro p e s m args below meth c s₁ B hml hv
  obtain ⟨rfl, hP, hK, hD, hA, hN⟩ := hv
  have hx := B.exec
  have hb := B.bytes
  have hr := B.returns
  have hlocks := B.notSynchronized
  have hts : ∀ w ∈ wsU, w.before _ s = true := fun w h => atoms_spec (ws := us_X7_nextRow) B.pre w (List.mem_cons_of_mem _ h)
  have hown : s.vm.findClass RX7 = some m.cls := findClass_of_methodNamed B.named
  have hC : Cx p m c cX7_nextRow 5 s _ wsU RX7 D cy := ⟨⟨hx, hb, hml, hown, hts⟩, hK, hN⟩
  have hW : Wd D cy 27 shM ad A s.heap σ s.heap [] := ⟨hP, hD, va_S.rf, hA⟩
  have hl := lv_entry ([.ref (ad 0)]) (n := 5) (Nat.le_of_ble_eq_true rfl)
  rw [lg_entry_eq]
  generalize (lg_sl ([.ref (ad 0)]) ++ List.replicate (5 - (lg_sl ([.ref (ad 0)])).length) Slot.unset).toArray = ls at hl ⊢
  have hl : lv_has ls 5 [(0, .ref (ad 0))] := hl
  have L86 : ∀ (f : Nat) (v3 : Int32) (v4 : Int32) (σ : Hp), t_X7_nextRow_86 N f v3 v4 σ = some (r, σ') → ∀ (H : Heap) (locs : List Loc), Wd D cy 27 shM ad A s.heap σ H locs → ∀ ls : Array Slot, lv_has ls 5 [(0, .ref (ad 0)), (3, .int v3), (4, .int v4)] → Gi p l e us_X7_nextRow ({ frames := 1, cells := 0, slots := 0, locals := 23 } : Room) s m [.ref (ad 0)] below meth c D cy 27 shM ad A r σ' H locs (F0 m 86 ls []) := by
    intro f
    unfold t_X7_nextRow_86
    refine loopG_ind (fun (T : Int32 → Int32 → Hp → Option (Int32 × Hp)) => ∀ (v3 : Int32) (v4 : Int32) (σ : Hp), T v3 v4 σ = some (r, σ') → ∀ (H : Heap) (locs : List Loc), Wd D cy 27 shM ad A s.heap σ H locs → ∀ ls : Array Slot, lv_has ls 5 [(0, .ref (ad 0)), (3, .int v3), (4, .int v4)] → Gi p l e us_X7_nextRow ({ frames := 1, cells := 0, slots := 0, locals := 23 } : Room) s m [.ref (ad 0)] below meth c D cy 27 shM ad A r σ' H locs (F0 m 86 ls [])) ?_ ?_ f
    · intro v3 v4 σ h; exact absurd h (by simp)
    · intro k86 ih86
      intro v3 v4 σ h H locs hW ls hl
      refine lv_iload_n hx hb dX7_nextRow_86 rfl (lv_at hl 1 rfl) ?_
      refine lv_iload hx hb dX7_nextRow_87 (lv_at hl 2 rfl) ?_
      refine lv_icmp_ge (tgt := 108) hx hb dX7_nextRow_89 (by decide) (fun cq => ?_) (fun cq => ?_)
      · replace h := tp cq h
        refine lv_iconst (v := 1) hx hb dX7_nextRow_108 (by decide) ?_
        exact r_zretW (Or.inr rfl) hC hr hlocks h hW dX7_nextRow_109
      · replace h := tn cq h
        refine lv_aload_n hx hb dX7_nextRow_92 rfl (lv_at hl 0 rfl) ?_
        refine lv_iload_n hx hb dX7_nextRow_93 rfl (lv_at hl 1 rfl) ?_
        refine lv_iload hx hb dX7_nextRow_94 (lv_at hl 2 rfl) ?_
        replace h := bd h
        obtain ⟨σ1, hc, h⟩ := h
        refine r_callv hW (va_runV (As := [.int v3, .int v4]) (rest := []) hC.1 (c_X7_change l D cy ad A _ _ _ _ hc) (cwV 2 hts (gdV wd_359 wd_360 wd_361 wd_300 wd_358) rfl rfl rfl (by decide +kernel) ⟨Nat.le_of_ble_eq_true rfl, Nat.le_of_ble_eq_true rfl⟩) (r_preV hC hW (Nat.le_of_ble_eq_true rfl) rfl rfl) rfl rfl hl.1 rfl (lv_room (Nat.le_of_ble_eq_true rfl)) dX7_nextRow_96 ⟨Nat.zero_le _, Nat.zero_le _⟩) (fun H locs hWn => ?_)
        replace hW := hWn
        clear hWn hc
        replace h := bx h
        obtain ⟨x2, ex2, h⟩ := h
        refine lv_iinc (v := x2) (lv' := [(3, .int x2), (0, .ref (ad 0)), (4, .int v4)]) hx hb dX7_nextRow_99 hl (k := 1) rfl (by rw [ex2]; rfl) (by decide) rfl (fun ls hln => ?_)
        replace hl := hln
        clear hln ex2
        replace h := bx h
        obtain ⟨x3, ex3, h⟩ := h
        refine lv_iinc (v := x3) (lv' := [(4, .int x3), (3, .int x2), (0, .ref (ad 0))]) hx hb dX7_nextRow_102 hl (k := 2) rfl (by rw [ex3]; rfl) (by decide) rfl (fun ls hln => ?_)
        replace hl := hln
        clear hln ex3
        refine lv_goto (tgt := 86) hx hb dX7_nextRow_105 (by decide) ?_
        exact ih86 _ _ _ h _ _ hW _ (lv_sub hl [2, 1, 0] rfl)
  have L47 : ∀ (f : Nat) (v1 : Int32) (v2 : Int32) (σ : Hp), t_X7_nextRow_47 N f v1 v2 σ = some (r, σ') → ∀ (H : Heap) (locs : List Loc), Wd D cy 27 shM ad A s.heap σ H locs → ∀ ls : Array Slot, lv_has ls 5 [(0, .ref (ad 0)), (1, .int v1), (2, .int v2)] → Gi p l e us_X7_nextRow ({ frames := 1, cells := 0, slots := 0, locals := 23 } : Room) s m [.ref (ad 0)] below meth c D cy 27 shM ad A r σ' H locs (F0 m 47 ls []) := by
    intro f
    unfold t_X7_nextRow_47
    refine loopG_ind (fun (T : Int32 → Int32 → Hp → Option (Int32 × Hp)) => ∀ (v1 : Int32) (v2 : Int32) (σ : Hp), T v1 v2 σ = some (r, σ') → ∀ (H : Heap) (locs : List Loc), Wd D cy 27 shM ad A s.heap σ H locs → ∀ ls : Array Slot, lv_has ls 5 [(0, .ref (ad 0)), (1, .int v1), (2, .int v2)] → Gi p l e us_X7_nextRow ({ frames := 1, cells := 0, slots := 0, locals := 23 } : Room) s m [.ref (ad 0)] below meth c D cy 27 shM ad A r σ' H locs (F0 m 47 ls [])) ?_ ?_ f
    · intro v1 v2 σ h; exact absurd h (by simp)
    · intro k47 ih47
      intro v1 v2 σ h H locs hW ls hl
      refine lv_aload_n hx hb dX7_nextRow_47 rfl (lv_at hl 0 rfl) ?_
      refine r_getr hC hW 22 (Nat.le_of_ble_eq_true rfl) rfl rfl rfl (by decide) inUX7 (hts _ wd_324) rfl dX7_nextRow_48 ?_
      refine lv_iload_n hx hb dX7_nextRow_51 rfl (lv_at hl 2 rfl) ?_
      replace h := og h
      obtain ⟨hi, h⟩ := h
      refine r_ald hC hW (Nat.le_of_ble_eq_true rfl) rfl hi dX7_nextRow_52 ?_
      refine lv_aload_n hx hb dX7_nextRow_53 rfl (lv_at hl 0 rfl) ?_
      refine r_getr hC hW 22 (Nat.le_of_ble_eq_true rfl) rfl rfl rfl (by decide) inUX7 (hts _ wd_324) rfl dX7_nextRow_54 ?_
      refine lv_iload_n hx hb dX7_nextRow_57 rfl (lv_at hl 1 rfl) ?_
      replace h := og h
      obtain ⟨hi, h⟩ := h
      refine r_ald hC hW (Nat.le_of_ble_eq_true rfl) rfl hi dX7_nextRow_58 ?_
      refine lv_icmp_ge (tgt := 68) hx hb dX7_nextRow_59 (by decide) (fun cq => ?_) (fun cq => ?_)
      · replace h := tp cq h
        refine lv_aload_n hx hb dX7_nextRow_68 rfl (lv_at hl 0 rfl) ?_
        refine lv_iload_n hx hb dX7_nextRow_69 rfl (lv_at hl 1 rfl) ?_
        refine lv_iload_n hx hb dX7_nextRow_70 rfl (lv_at hl 2 rfl) ?_
        replace h := bd h
        obtain ⟨σ4, hc, h⟩ := h
        refine r_callv hW (va_runV (As := [.int v1, .int v2]) (rest := []) hC.1 (c_X7_change l D cy ad A _ _ _ _ hc) (cwV 2 hts (gdV wd_359 wd_360 wd_361 wd_300 wd_358) rfl rfl rfl (by decide +kernel) ⟨Nat.le_of_ble_eq_true rfl, Nat.le_of_ble_eq_true rfl⟩) (r_preV hC hW (Nat.le_of_ble_eq_true rfl) rfl rfl) rfl rfl hl.1 rfl (lv_room (Nat.le_of_ble_eq_true rfl)) dX7_nextRow_71 ⟨Nat.zero_le _, Nat.zero_le _⟩) (fun H locs hWn => ?_)
        replace hW := hWn
        clear hWn hc
        refine lv_iload_n hx hb dX7_nextRow_74 rfl (lv_at hl 1 rfl) ?_
        refine lv_iconst (v := 1) hx hb dX7_nextRow_75 (by decide) ?_
        refine lv_iadd hx hb dX7_nextRow_76 ?_
        replace h := bx h
        obtain ⟨x5, ex5, h⟩ := h
        refine tope ex5 ?_
        clear ex5
        refine lv_istore_n (lv' := [(3, .int x5), (0, .ref (ad 0)), (1, .int v1), (2, .int v2)]) hx hb dX7_nextRow_77 rfl hl (by decide) rfl (fun ls hln => ?_)
        replace hl := hln
        clear hln
        refine lv_aload_n hx hb dX7_nextRow_78 rfl (lv_at hl 1 rfl) ?_
        refine r_geti hC hW 0 (Nat.le_of_ble_eq_true rfl) rfl rfl rfl (by decide) inUX7 (hts _ wd_294) rfl dX7_nextRow_79 ?_
        refine lv_iconst (v := 1) hx hb dX7_nextRow_82 (by decide) ?_
        refine lv_isub hx hb dX7_nextRow_83 ?_
        replace h := bx h
        obtain ⟨x6, ex6, h⟩ := h
        refine tope ex6 ?_
        clear ex6
        refine lv_istore (lv' := [(4, .int x6), (3, .int x5), (0, .ref (ad 0)), (1, .int v1), (2, .int v2)]) hx hb dX7_nextRow_84 hl (by decide) rfl (fun ls hln => ?_)
        replace hl := hln
        clear hln
        exact L86 _ _ _ _ h _ _ hW _ (lv_sub hl [2, 1, 0] rfl)
      · replace h := tn cq h
        replace h := bx h
        obtain ⟨x7, ex7, h⟩ := h
        refine lv_iinc (v := x7) (lv' := [(2, .int x7), (0, .ref (ad 0)), (1, .int v1)]) hx hb dX7_nextRow_62 hl (k := 2) rfl (by rw [ex7]; rfl) (by decide) rfl (fun ls hln => ?_)
        replace hl := hln
        clear hln ex7
        refine lv_goto (tgt := 47) hx hb dX7_nextRow_65 (by decide) ?_
        exact ih47 _ _ _ h _ _ hW _ (lv_sub hl [1, 2, 0] rfl)
  have J34 : ∀ (v1 : Int32) (σ : Hp), t_X7_nextRow_34 N v1 σ = some (r, σ') → ∀ (H : Heap) (locs : List Loc), Wd D cy 27 shM ad A s.heap σ H locs → ∀ ls : Array Slot, lv_has ls 5 [(0, .ref (ad 0)), (1, .int v1)] → Gi p l e us_X7_nextRow ({ frames := 1, cells := 0, slots := 0, locals := 23 } : Room) s m [.ref (ad 0)] below meth c D cy 27 shM ad A r σ' H locs (F0 m 34 ls []) := by
    intro v1 σ h H locs hW ls hl
    unfold t_X7_nextRow_34 at h
    refine lv_iload_n hx hb dX7_nextRow_34 rfl (lv_at hl 1 rfl) ?_
    refine lv_if_ge (tgt := 40) hx hb dX7_nextRow_35 (by decide) (fun cq => ?_) (fun cq => ?_)
    · replace h := tp cq h
      refine lv_aload_n hx hb dX7_nextRow_40 rfl (lv_at hl 0 rfl) ?_
      refine r_geti hC hW 0 (Nat.le_of_ble_eq_true rfl) rfl rfl rfl (by decide) inUX7 (hts _ wd_294) rfl dX7_nextRow_41 ?_
      refine lv_iconst (v := 1) hx hb dX7_nextRow_44 (by decide) ?_
      refine lv_isub hx hb dX7_nextRow_45 ?_
      replace h := bx h
      obtain ⟨x8, ex8, h⟩ := h
      refine tope ex8 ?_
      clear ex8
      refine lv_istore_n (lv' := [(2, .int x8), (0, .ref (ad 0)), (1, .int v1)]) hx hb dX7_nextRow_46 rfl hl (by decide) rfl (fun ls hln => ?_)
      replace hl := hln
      clear hln
      exact L47 _ _ _ _ h _ _ hW _ (lv_sub hl [1, 2, 0] rfl)
    · replace h := tn cq h
      refine lv_iconst (v := 0) hx hb dX7_nextRow_38 (by decide) ?_
      exact r_zretW (Or.inl rfl) hC hr hlocks h hW dX7_nextRow_39
  have L7 : ∀ (f : Nat) (v1 : Int32) (σ : Hp), t_X7_nextRow_7 N f v1 σ = some (r, σ') → ∀ (H : Heap) (locs : List Loc), Wd D cy 27 shM ad A s.heap σ H locs → ∀ ls : Array Slot, lv_has ls 5 [(0, .ref (ad 0)), (1, .int v1)] → Gi p l e us_X7_nextRow ({ frames := 1, cells := 0, slots := 0, locals := 23 } : Room) s m [.ref (ad 0)] below meth c D cy 27 shM ad A r σ' H locs (F0 m 7 ls []) := by
    intro f
    unfold t_X7_nextRow_7
    refine loopG_ind (fun (T : Int32 → Hp → Option (Int32 × Hp)) => ∀ (v1 : Int32) (σ : Hp), T v1 σ = some (r, σ') → ∀ (H : Heap) (locs : List Loc), Wd D cy 27 shM ad A s.heap σ H locs → ∀ ls : Array Slot, lv_has ls 5 [(0, .ref (ad 0)), (1, .int v1)] → Gi p l e us_X7_nextRow ({ frames := 1, cells := 0, slots := 0, locals := 23 } : Room) s m [.ref (ad 0)] below meth c D cy 27 shM ad A r σ' H locs (F0 m 7 ls [])) ?_ ?_ f
    · intro v1 σ h; exact absurd h (by simp)
    · intro k7 ih7
      intro v1 σ h H locs hW ls hl
      refine lv_iload_n hx hb dX7_nextRow_7 rfl (lv_at hl 1 rfl) ?_
      refine lv_if_lt (tgt := 34) hx hb dX7_nextRow_8 (by decide) (fun cq => ?_) (fun cq => ?_)
      · replace h := tp cq h
        exact J34 _ _ h _ _ hW _ (lv_sub hl [0, 1] rfl)
      · replace h := tn cq h
        refine lv_aload_n hx hb dX7_nextRow_11 rfl (lv_at hl 0 rfl) ?_
        refine r_getr hC hW 22 (Nat.le_of_ble_eq_true rfl) rfl rfl rfl (by decide) inUX7 (hts _ wd_324) rfl dX7_nextRow_12 ?_
        refine lv_iload_n hx hb dX7_nextRow_15 rfl (lv_at hl 1 rfl) ?_
        replace h := og h
        obtain ⟨hi, h⟩ := h
        refine r_ald hC hW (Nat.le_of_ble_eq_true rfl) rfl hi dX7_nextRow_16 ?_
        refine lv_aload_n hx hb dX7_nextRow_17 rfl (lv_at hl 0 rfl) ?_
        refine r_getr hC hW 22 (Nat.le_of_ble_eq_true rfl) rfl rfl rfl (by decide) inUX7 (hts _ wd_324) rfl dX7_nextRow_18 ?_
        refine lv_iload_n hx hb dX7_nextRow_21 rfl (lv_at hl 1 rfl) ?_
        refine lv_iconst (v := 1) hx hb dX7_nextRow_22 (by decide) ?_
        refine lv_iadd hx hb dX7_nextRow_23 ?_
        replace h := og h
        obtain ⟨hi, h⟩ := h
        refine r_ald hC hW (Nat.le_of_ble_eq_true rfl) rfl hi dX7_nextRow_24 ?_
        refine lv_icmp_le (tgt := 34) hx hb dX7_nextRow_25 (by decide) (fun cq => ?_) (fun cq => ?_)
        · replace h := tp cq h
          exact J34 _ _ h _ _ hW _ (lv_sub hl [0, 1] rfl)
        · replace h := tn cq h
          replace h := bx h
          obtain ⟨x9, ex9, h⟩ := h
          refine lv_iinc (v := x9) (lv' := [(1, .int x9), (0, .ref (ad 0))]) hx hb dX7_nextRow_28 hl (k := 1) rfl (by rw [ex9]; rfl) (by decide) rfl (fun ls hln => ?_)
          replace hl := hln
          clear hln ex9
          refine lv_goto (tgt := 7) hx hb dX7_nextRow_31 (by decide) ?_
          exact ih7 _ _ h _ _ hW _ (lv_sub hl [1, 0] rfl)
  refine lv_aload_n hx hb dX7_nextRow_0 rfl (lv_at hl 0 rfl) ?_
  refine r_geti hC hW 0 (Nat.le_of_ble_eq_true rfl) rfl rfl rfl (by decide) inUX7 (hts _ wd_294) rfl dX7_nextRow_1 ?_
  refine lv_iconst (v := 2) hx hb dX7_nextRow_4 (by decide) ?_
  refine lv_isub hx hb dX7_nextRow_5 ?_
  replace h := bx h
  obtain ⟨x10, ex10, h⟩ := h
  refine tope ex10 ?_
  clear ex10
  refine lv_istore_n (lv' := [(1, .int x10), (0, .ref (ad 0))]) hx hb dX7_nextRow_6 rfl hl (by decide) rfl (fun ls hln => ?_)
  replace hl := hln
  clear hln
  exact L7 _ _ _ h _ _ hW _ (lv_sub hl [1, 0] rfl)
set_option maxHeartbeats 4000000 in
set_option maxRecDepth 100000 in
theorem c_X7_goFits (l : Launch) (D : va_G) (cy : ClassId × ClassId) (ad : Nat → Nat) (A : Nat → Prop) (N : Nat) (σ : Hp) (r : Int32) (σ' : Hp) (h : t_X7_goFits N σ = some (r, σ')) : Ci l yX7_goFits us_X7_goFits ({ frames := 4, cells := 0, slots := 0, locals := 90 } : Room) D cy 27 shM ad A [.ref (ad 0)] σ r σ' := by
  unfold t_X7_goFits at h
  refine Met.ofW (cc := cX7_goFits) (maxL := 2) (ret := (some .int)) (by decide) rfl ?_
  intro p e s m args below meth c s₁ B hml hv
  obtain ⟨rfl, hP, hK, hD, hA, hN⟩ := hv
  have hx := B.exec
  have hb := B.bytes
  have hr := B.returns
  have hlocks := B.notSynchronized
  have hts : ∀ w ∈ wsU, w.before _ s = true := fun w h => atoms_spec (ws := us_X7_goFits) B.pre w (List.mem_cons_of_mem _ h)
  have hown : s.vm.findClass RX7 = some m.cls := findClass_of_methodNamed B.named
  have hC : Cx p m c cX7_goFits 2 s _ wsU RX7 D cy := ⟨⟨hx, hb, hml, hown, hts⟩, hK, hN⟩
  have hW : Wd D cy 27 shM ad A s.heap σ s.heap [] := ⟨hP, hD, va_S.rf, hA⟩
  have hl := lv_entry ([.ref (ad 0)]) (n := 2) (Nat.le_of_ble_eq_true rfl)
  rw [lg_entry_eq]
  generalize (lg_sl ([.ref (ad 0)]) ++ List.replicate (2 - (lg_sl ([.ref (ad 0)])).length) Slot.unset).toArray = ls at hl ⊢
  have hl : lv_has ls 2 [(0, .ref (ad 0))] := hl
  have L103 : ∀ (f : Nat) (v1 : Int32) (σ : Hp), t_X7_goFits_103 N f v1 σ = some (r, σ') → ∀ (H : Heap) (locs : List Loc), Wd D cy 27 shM ad A s.heap σ H locs → ∀ ls : Array Slot, lv_has ls 2 [(0, .ref (ad 0)), (1, .int v1)] → Gi p l e us_X7_goFits ({ frames := 4, cells := 0, slots := 0, locals := 90 } : Room) s m [.ref (ad 0)] below meth c D cy 27 shM ad A r σ' H locs (F0 m 103 ls []) := by
    intro f
    unfold t_X7_goFits_103
    refine loopG_ind (fun (T : Int32 → Hp → Option (Int32 × Hp)) => ∀ (v1 : Int32) (σ : Hp), T v1 σ = some (r, σ') → ∀ (H : Heap) (locs : List Loc), Wd D cy 27 shM ad A s.heap σ H locs → ∀ ls : Array Slot, lv_has ls 2 [(0, .ref (ad 0)), (1, .int v1)] → Gi p l e us_X7_goFits ({ frames := 4, cells := 0, slots := 0, locals := 90 } : Room) s m [.ref (ad 0)] below meth c D cy 27 shM ad A r σ' H locs (F0 m 103 ls [])) ?_ ?_ f
    · intro v1 σ h; exact absurd h (by simp)
    · intro k103 ih103
      have J125 : ∀ (σ : Hp), t_X7_goFits_125 N k103  σ = some (r, σ') → ∀ (H : Heap) (locs : List Loc), Wd D cy 27 shM ad A s.heap σ H locs → ∀ ls : Array Slot, lv_has ls 2 [(0, .ref (ad 0))] → Gi p l e us_X7_goFits ({ frames := 4, cells := 0, slots := 0, locals := 90 } : Room) s m [.ref (ad 0)] below meth c D cy 27 shM ad A r σ' H locs (F0 m 125 ls []) := by
        intro  σ h H locs hW ls hl
        unfold t_X7_goFits_125 at h
        refine lv_aload_n hx hb dX7_goFits_125 rfl (lv_at hl 0 rfl) ?_
        replace h := ob h
        obtain ⟨r1, σ2, hc, h⟩ := h
        refine r_calli hW (va_runV (As := []) (rest := []) hC.1 (c_X7_nextRow l D cy ad A N _ _ _ hc) (cwV 0 hts (gdV wd_363 wd_364 wd_365 wd_300 wd_362) rfl rfl rfl (by decide +kernel) ⟨Nat.le_of_ble_eq_true rfl, Nat.le_of_ble_eq_true rfl⟩) (r_preV hC hW (Nat.le_of_ble_eq_true rfl) rfl rfl) rfl rfl hl.1 rfl (lv_room (Nat.le_of_ble_eq_true rfl)) dX7_goFits_126 ⟨Nat.zero_le _, Nat.zero_le _⟩) (fun H locs hWn => ?_)
        replace hW := hWn
        clear hWn hc
        refine lv_istore_n (lv' := [(1, .int r1), (0, .ref (ad 0))]) hx hb dX7_goFits_129 rfl hl (by decide) rfl (fun ls hln => ?_)
        replace hl := hln
        clear hln
        refine lv_goto (tgt := 103) hx hb dX7_goFits_130 (by decide) ?_
        exact ih103 _ _ h _ _ hW _ (lv_sub hl [1, 0] rfl)
      intro v1 σ h H locs hW ls hl
      refine lv_iload_n hx hb dX7_goFits_103 rfl (lv_at hl 1 rfl) ?_
      refine lv_if_eq (tgt := 133) hx hb dX7_goFits_104 (by decide) (fun cq => ?_) (fun cq => ?_)
      · replace h := tp cq h
        refine lv_bipush (v := (-6)) hx hb dX7_goFits_133 (by decide) ?_
        exact r_iretW hC hr hlocks h hW dX7_goFits_135
      · replace h := tn cq h
        refine lv_aload_n hx hb dX7_goFits_107 rfl (lv_at hl 0 rfl) ?_
        replace h := ob h
        obtain ⟨r3, σ4, hc, h⟩ := h
        refine r_calli hW (va_runV (As := []) (rest := []) hC.1 (c_X7_fitsClues l D cy ad A N _ _ _ hc) (cwV 0 hts (gdV wd_367 wd_368 wd_369 wd_300 wd_366) rfl rfl rfl (by decide +kernel) ⟨Nat.le_of_ble_eq_true rfl, Nat.le_of_ble_eq_true rfl⟩) (r_preV hC hW (Nat.le_of_ble_eq_true rfl) rfl rfl) rfl rfl hl.1 rfl (lv_room (Nat.le_of_ble_eq_true rfl)) dX7_goFits_108 ⟨Nat.zero_le _, Nat.zero_le _⟩) (fun H locs hWn => ?_)
        replace hW := hWn
        clear hWn hc
        refine lv_if_eq (tgt := 125) hx hb dX7_goFits_111 (by decide) (fun cq => ?_) (fun cq => ?_)
        · replace h := tp cq h
          exact J125 _ h _ _ hW _ (lv_sub hl [0] rfl)
        · replace h := tn cq h
          refine lv_aload_n hx hb dX7_goFits_114 rfl (lv_at hl 0 rfl) ?_
          replace h := ob h
          obtain ⟨r5, σ6, hc, h⟩ := h
          refine r_calli hW (va_runV (As := []) (rest := []) hC.1 (c_X7_fitsSights l D cy ad A N _ _ _ hc) (cwV 0 hts (gdV wd_371 wd_372 wd_373 wd_300 wd_370) rfl rfl rfl (by decide +kernel) ⟨Nat.le_of_ble_eq_true rfl, Nat.le_of_ble_eq_true rfl⟩) (r_preV hC hW (Nat.le_of_ble_eq_true rfl) rfl rfl) rfl rfl hl.1 rfl (lv_room (Nat.le_of_ble_eq_true rfl)) dX7_goFits_115 ⟨Nat.zero_le _, Nat.zero_le _⟩) (fun H locs hWn => ?_)
          replace hW := hWn
          clear hWn hc
          refine lv_if_eq (tgt := 125) hx hb dX7_goFits_118 (by decide) (fun cq => ?_) (fun cq => ?_)
          · replace h := tp cq h
            exact J125 _ h _ _ hW _ (lv_sub hl [0] rfl)
          · replace h := tn cq h
            refine lv_aload_n hx hb dX7_goFits_121 rfl (lv_at hl 0 rfl) ?_
            replace h := bd h
            obtain ⟨σ7, hc, h⟩ := h
            refine r_callv hW (va_runV (As := []) (rest := []) hC.1 (c_X7_countFit l D cy ad A N _ _ hc) (cwV 0 hts (gdV wd_375 wd_376 wd_377 wd_300 wd_374) rfl rfl rfl (by decide +kernel) ⟨Nat.le_of_ble_eq_true rfl, Nat.le_of_ble_eq_true rfl⟩) (r_preV hC hW (Nat.le_of_ble_eq_true rfl) rfl rfl) rfl rfl hl.1 rfl (lv_room (Nat.le_of_ble_eq_true rfl)) dX7_goFits_122 ⟨Nat.zero_le _, Nat.zero_le _⟩) (fun H locs hWn => ?_)
            replace hW := hWn
            clear hWn hc
            exact J125 _ h _ _ hW _ (lv_sub hl [0] rfl)
  have L80 : ∀ (f : Nat) (v1 : Int32) (σ : Hp), t_X7_goFits_80 N f v1 σ = some (r, σ') → ∀ (H : Heap) (locs : List Loc), Wd D cy 27 shM ad A s.heap σ H locs → ∀ ls : Array Slot, lv_has ls 2 [(0, .ref (ad 0)), (1, .int v1)] → Gi p l e us_X7_goFits ({ frames := 4, cells := 0, slots := 0, locals := 90 } : Room) s m [.ref (ad 0)] below meth c D cy 27 shM ad A r σ' H locs (F0 m 80 ls []) := by
    intro f
    unfold t_X7_goFits_80
    refine loopG_ind (fun (T : Int32 → Hp → Option (Int32 × Hp)) => ∀ (v1 : Int32) (σ : Hp), T v1 σ = some (r, σ') → ∀ (H : Heap) (locs : List Loc), Wd D cy 27 shM ad A s.heap σ H locs → ∀ ls : Array Slot, lv_has ls 2 [(0, .ref (ad 0)), (1, .int v1)] → Gi p l e us_X7_goFits ({ frames := 4, cells := 0, slots := 0, locals := 90 } : Room) s m [.ref (ad 0)] below meth c D cy 27 shM ad A r σ' H locs (F0 m 80 ls [])) ?_ ?_ f
    · intro v1 σ h; exact absurd h (by simp)
    · intro k80 ih80
      intro v1 σ h H locs hW ls hl
      refine lv_iload_n hx hb dX7_goFits_80 rfl (lv_at hl 1 rfl) ?_
      refine lv_aload_n hx hb dX7_goFits_81 rfl (lv_at hl 0 rfl) ?_
      refine r_geti hC hW 0 (Nat.le_of_ble_eq_true rfl) rfl rfl rfl (by decide) inUX7 (hts _ wd_294) rfl dX7_goFits_82 ?_
      refine lv_icmp_ge (tgt := 101) hx hb dX7_goFits_85 (by decide) (fun cq => ?_) (fun cq => ?_)
      · replace h := tp cq h
        refine lv_iconst (v := 1) hx hb dX7_goFits_101 (by decide) ?_
        refine lv_istore_n (lv' := [(1, .int 1), (0, .ref (ad 0))]) hx hb dX7_goFits_102 rfl hl (by decide) rfl (fun ls hln => ?_)
        replace hl := hln
        clear hln
        exact L103 _ _ _ h _ _ hW _ (lv_sub hl [1, 0] rfl)
      · replace h := tn cq h
        refine lv_aload_n hx hb dX7_goFits_88 rfl (lv_at hl 0 rfl) ?_
        refine r_getr hC hW 22 (Nat.le_of_ble_eq_true rfl) rfl rfl rfl (by decide) inUX7 (hts _ wd_324) rfl dX7_goFits_89 ?_
        refine lv_iload_n hx hb dX7_goFits_92 rfl (lv_at hl 1 rfl) ?_
        refine lv_iload_n hx hb dX7_goFits_93 rfl (lv_at hl 1 rfl) ?_
        replace h := og h
        obtain ⟨hi, h⟩ := h
        refine r_ast hC hW (Nat.le_of_ble_eq_true rfl) rfl hi dX7_goFits_94 (fun σ8 eσ8 H locs hWn => ?_)
        replace h := bn eσ8 h
        replace hW := hWn
        clear hWn eσ8
        replace h := bx h
        obtain ⟨x9, ex9, h⟩ := h
        refine lv_iinc (v := x9) (lv' := [(1, .int x9), (0, .ref (ad 0))]) hx hb dX7_goFits_95 hl (k := 1) rfl (by rw [ex9]; rfl) (by decide) rfl (fun ls hln => ?_)
        replace hl := hln
        clear hln ex9
        refine lv_goto (tgt := 80) hx hb dX7_goFits_98 (by decide) ?_
        exact ih80 _ _ h _ _ hW _ (lv_sub hl [1, 0] rfl)
  have L52 : ∀ (f : Nat) (v1 : Int32) (σ : Hp), t_X7_goFits_52 N f v1 σ = some (r, σ') → ∀ (H : Heap) (locs : List Loc), Wd D cy 27 shM ad A s.heap σ H locs → ∀ ls : Array Slot, lv_has ls 2 [(0, .ref (ad 0)), (1, .int v1)] → Gi p l e us_X7_goFits ({ frames := 4, cells := 0, slots := 0, locals := 90 } : Room) s m [.ref (ad 0)] below meth c D cy 27 shM ad A r σ' H locs (F0 m 52 ls []) := by
    intro f
    unfold t_X7_goFits_52
    refine loopG_ind (fun (T : Int32 → Hp → Option (Int32 × Hp)) => ∀ (v1 : Int32) (σ : Hp), T v1 σ = some (r, σ') → ∀ (H : Heap) (locs : List Loc), Wd D cy 27 shM ad A s.heap σ H locs → ∀ ls : Array Slot, lv_has ls 2 [(0, .ref (ad 0)), (1, .int v1)] → Gi p l e us_X7_goFits ({ frames := 4, cells := 0, slots := 0, locals := 90 } : Room) s m [.ref (ad 0)] below meth c D cy 27 shM ad A r σ' H locs (F0 m 52 ls [])) ?_ ?_ f
    · intro v1 σ h; exact absurd h (by simp)
    · intro k52 ih52
      intro v1 σ h H locs hW ls hl
      refine lv_iload_n hx hb dX7_goFits_52 rfl (lv_at hl 1 rfl) ?_
      refine lv_bipush (v := 49) hx hb dX7_goFits_53 (by decide) ?_
      refine lv_icmp_ge (tgt := 78) hx hb dX7_goFits_55 (by decide) (fun cq => ?_) (fun cq => ?_)
      · replace h := tp cq h
        refine lv_iconst (v := 0) hx hb dX7_goFits_78 (by decide) ?_
        refine lv_istore_n (lv' := [(1, .int 0), (0, .ref (ad 0))]) hx hb dX7_goFits_79 rfl hl (by decide) rfl (fun ls hln => ?_)
        replace hl := hln
        clear hln
        exact L80 _ _ _ h _ _ hW _ (lv_sub hl [1, 0] rfl)
      · replace h := tn cq h
        refine lv_aload_n hx hb dX7_goFits_58 rfl (lv_at hl 0 rfl) ?_
        refine r_getr hC hW 35 (Nat.le_of_ble_eq_true rfl) rfl rfl rfl (by decide) inUX7 (hts _ wd_355) rfl dX7_goFits_59 ?_
        refine lv_iload_n hx hb dX7_goFits_62 rfl (lv_at hl 1 rfl) ?_
        refine lv_iconst (v := 0) hx hb dX7_goFits_63 (by decide) ?_
        replace h := og h
        obtain ⟨hi, h⟩ := h
        refine r_ast hC hW (Nat.le_of_ble_eq_true rfl) rfl hi dX7_goFits_64 (fun σ10 eσ10 H locs hWn => ?_)
        replace h := bn eσ10 h
        replace hW := hWn
        clear hWn eσ10
        refine lv_aload_n hx hb dX7_goFits_65 rfl (lv_at hl 0 rfl) ?_
        refine r_getr hC hW 36 (Nat.le_of_ble_eq_true rfl) rfl rfl rfl (by decide) inUX7 (hts _ wd_354) rfl dX7_goFits_66 ?_
        refine lv_iload_n hx hb dX7_goFits_69 rfl (lv_at hl 1 rfl) ?_
        refine lv_iconst (v := 0) hx hb dX7_goFits_70 (by decide) ?_
        replace h := og h
        obtain ⟨hi, h⟩ := h
        refine r_ast hC hW (Nat.le_of_ble_eq_true rfl) rfl hi dX7_goFits_71 (fun σ11 eσ11 H locs hWn => ?_)
        replace h := bn eσ11 h
        replace hW := hWn
        clear hWn eσ11
        replace h := bx h
        obtain ⟨x12, ex12, h⟩ := h
        refine lv_iinc (v := x12) (lv' := [(1, .int x12), (0, .ref (ad 0))]) hx hb dX7_goFits_72 hl (k := 1) rfl (by rw [ex12]; rfl) (by decide) rfl (fun ls hln => ?_)
        replace hl := hln
        clear hln ex12
        refine lv_goto (tgt := 52) hx hb dX7_goFits_75 (by decide) ?_
        exact ih52 _ _ h _ _ hW _ (lv_sub hl [1, 0] rfl)
  have J41 : ∀ (σ : Hp), t_X7_goFits_41 N  σ = some (r, σ') → ∀ (H : Heap) (locs : List Loc), Wd D cy 27 shM ad A s.heap σ H locs → ∀ ls : Array Slot, lv_has ls 2 [(0, .ref (ad 0))] → Gi p l e us_X7_goFits ({ frames := 4, cells := 0, slots := 0, locals := 90 } : Room) s m [.ref (ad 0)] below meth c D cy 27 shM ad A r σ' H locs (F0 m 41 ls []) := by
    intro  σ h H locs hW ls hl
    unfold t_X7_goFits_41 at h
    refine lv_aload_n hx hb dX7_goFits_41 rfl (lv_at hl 0 rfl) ?_
    replace h := bd h
    obtain ⟨σ13, hc, h⟩ := h
    refine r_callv hW (va_runV (As := []) (rest := []) hC.1 (c_X7_keepNow l D cy ad A N _ _ hc) (cwV 0 hts (gdV wd_379 wd_380 wd_381 wd_300 wd_378) rfl rfl rfl (by decide +kernel) ⟨Nat.le_of_ble_eq_true rfl, Nat.le_of_ble_eq_true rfl⟩) (r_preV hC hW (Nat.le_of_ble_eq_true rfl) rfl rfl) rfl rfl hl.1 rfl (lv_room (Nat.le_of_ble_eq_true rfl)) dX7_goFits_42 ⟨Nat.zero_le _, Nat.zero_le _⟩) (fun H locs hWn => ?_)
    replace hW := hWn
    clear hWn hc
    refine lv_aload_n hx hb dX7_goFits_45 rfl (lv_at hl 0 rfl) ?_
    refine lv_iconst (v := 0) hx hb dX7_goFits_46 (by decide) ?_
    refine r_put hC hW 33 (Nat.le_of_ble_eq_true rfl) rfl rfl rfl (by decide) inUX7 tyX7 tyX7_ok nmX7 (hts _ wd_356) rfl rfl ⟨rfl, rfl⟩ dX7_goFits_47 (fun σ14 eσ14 H locs hWn => ?_)
    replace h := bn eσ14 h
    replace hW := hWn
    clear hWn eσ14
    refine lv_iconst (v := 0) hx hb dX7_goFits_50 (by decide) ?_
    refine lv_istore_n (lv' := [(1, .int 0), (0, .ref (ad 0))]) hx hb dX7_goFits_51 rfl hl (by decide) rfl (fun ls hln => ?_)
    replace hl := hln
    clear hln
    exact L52 _ _ _ h _ _ hW _ (lv_sub hl [1, 0] rfl)
  have J24 : ∀ (σ : Hp), t_X7_goFits_24 N  σ = some (r, σ') → ∀ (H : Heap) (locs : List Loc), Wd D cy 27 shM ad A s.heap σ H locs → ∀ ls : Array Slot, lv_has ls 2 [(0, .ref (ad 0))] → Gi p l e us_X7_goFits ({ frames := 4, cells := 0, slots := 0, locals := 90 } : Room) s m [.ref (ad 0)] below meth c D cy 27 shM ad A r σ' H locs (F0 m 24 ls []) := by
    intro  σ h H locs hW ls hl
    unfold t_X7_goFits_24 at h
    refine lv_aload_n hx hb dX7_goFits_24 rfl (lv_at hl 0 rfl) ?_
    refine r_geti hC hW 14 (Nat.le_of_ble_eq_true rfl) rfl rfl rfl (by decide) inUX7 (hts _ wd_343) rfl dX7_goFits_25 ?_
    refine lv_if_le (tgt := 41) hx hb dX7_goFits_28 (by decide) (fun cq => ?_) (fun cq => ?_)
    · replace h := tp cq h
      exact J41 _ h _ _ hW _ (lv_sub hl [0] rfl)
    · replace h := tn cq h
      refine lv_aload_n hx hb dX7_goFits_31 rfl (lv_at hl 0 rfl) ?_
      replace h := bd h
      obtain ⟨r15, hc, h⟩ := h
      refine r_calli hW (va_runV (As := []) (rest := []) hC.1 (c_X7_areAllWhole l D cy ad A N _ _ hc) (cwV 0 hts (gdV wd_383 wd_384 wd_385 wd_300 wd_382) rfl rfl rfl (by decide +kernel) ⟨Nat.le_of_ble_eq_true rfl, Nat.le_of_ble_eq_true rfl⟩) (r_preV hC hW (Nat.le_of_ble_eq_true rfl) rfl rfl) rfl rfl hl.1 rfl (lv_room (Nat.le_of_ble_eq_true rfl)) dX7_goFits_32 ⟨Nat.zero_le _, Nat.zero_le _⟩) (fun H locs hWn => ?_)
      replace hW := hWn
      clear hWn hc
      refine lv_if_ne (tgt := 41) hx hb dX7_goFits_35 (by decide) (fun cq => ?_) (fun cq => ?_)
      · replace h := tn cq h
        exact J41 _ h _ _ hW _ (lv_sub hl [0] rfl)
      · replace h := tp cq h
        refine lv_bipush (v := (-3)) hx hb dX7_goFits_38 (by decide) ?_
        exact r_iretW hC hr hlocks h hW dX7_goFits_40
  refine lv_aload_n hx hb dX7_goFits_0 rfl (lv_at hl 0 rfl) ?_
  refine r_geti hC hW 14 (Nat.le_of_ble_eq_true rfl) rfl rfl rfl (by decide) inUX7 (hts _ wd_343) rfl dX7_goFits_1 ?_
  refine lv_if_le (tgt := 24) hx hb dX7_goFits_4 (by decide) (fun cq => ?_) (fun cq => ?_)
  · replace h := tp cq h
    exact J24 _ h _ _ hW _ (lv_sub hl [0] rfl)
  · replace h := tn cq h
    refine lv_aload_n hx hb dX7_goFits_7 rfl (lv_at hl 0 rfl) ?_
    replace h := ob h
    obtain ⟨r16, σ17, hc, h⟩ := h
    refine r_calli hW (va_runV (As := []) (rest := []) hC.1 (c_X7_faultOfWeek l D cy ad A N _ _ _ hc) (cwV 0 hts (gdV wd_387 wd_388 wd_389 wd_300 wd_386) rfl rfl rfl (by decide +kernel) ⟨Nat.le_of_ble_eq_true rfl, Nat.le_of_ble_eq_true rfl⟩) (r_preV hC hW (Nat.le_of_ble_eq_true rfl) rfl rfl) rfl rfl hl.1 rfl (lv_room (Nat.le_of_ble_eq_true rfl)) dX7_goFits_8 ⟨Nat.zero_le _, Nat.zero_le _⟩) (fun H locs hWn => ?_)
    replace hW := hWn
    clear hWn hc
    refine lv_if_ge (tgt := 21) hx hb dX7_goFits_11 (by decide) (fun cq => ?_) (fun cq => ?_)
    · replace h := tp cq h
      refine lv_bipush (v := (-5)) hx hb dX7_goFits_21 (by decide) ?_
      exact r_iretW hC hr hlocks h hW dX7_goFits_23
    · replace h := tn cq h
      refine lv_aload_n hx hb dX7_goFits_14 rfl (lv_at hl 0 rfl) ?_
      refine r_geti hC hW 21 (Nat.le_of_ble_eq_true rfl) rfl rfl rfl (by decide) inUX7 (hts _ wd_301) rfl dX7_goFits_15 ?_
      refine lv_if_eq (tgt := 24) hx hb dX7_goFits_18 (by decide) (fun cq => ?_) (fun cq => ?_)
      · replace h := tp cq h
        exact J24 _ h _ _ hW _ (lv_sub hl [0] rfl)
      · replace h := tn cq h
        refine lv_bipush (v := (-5)) hx hb dX7_goFits_21 (by decide) ?_
        exact r_iretW hC hr hlocks h hW dX7_goFits_23
set_option maxHeartbeats 4000000 in
set_option maxRecDepth 100000 in
theorem c_X7_mostAt (l : Launch) (D : va_G) (cy : ClassId × ClassId) (ad : Nat → Nat) (A : Nat → Prop) (N : Nat) (p0 : Int32) (σ : Hp) (r : Int32) (h : t_X7_mostAt N p0 σ = some r) : Ci l yX7_mostAt us_X7_mostAt ({ frames := 0, cells := 0, slots := 0, locals := 0 } : Room) D cy 27 shM ad A [.ref (ad 0), .int p0] σ r σ := by
  unfold t_X7_mostAt at h
  refine Met.ofW (cc := cX7_mostAt) (maxL := 4) (ret := (some .int)) (by decide) rfl ?_
  intro p e s m args below meth c s₁ B hml hv
  obtain ⟨rfl, hP, hK, hD, hA, hN⟩ := hv
  have hx := B.exec
  have hb := B.bytes
  have hr := B.returns
  have hlocks := B.notSynchronized
  have hts : ∀ w ∈ wsU, w.before _ s = true := fun w h => atoms_spec (ws := us_X7_mostAt) B.pre w (List.mem_cons_of_mem _ h)
  have hown : s.vm.findClass RX7 = some m.cls := findClass_of_methodNamed B.named
  have hC : Cx p m c cX7_mostAt 4 s _ wsU RX7 D cy := ⟨⟨hx, hb, hml, hown, hts⟩, hK, hN⟩
  have hW : Wd D cy 27 shM ad A s.heap σ s.heap [] := ⟨hP, hD, va_S.rf, hA⟩
  have hl := lv_entry ([.ref (ad 0), .int p0]) (n := 4) (Nat.le_of_ble_eq_true rfl)
  rw [lg_entry_eq]
  generalize (lg_sl ([.ref (ad 0), .int p0]) ++ List.replicate (4 - (lg_sl ([.ref (ad 0), .int p0])).length) Slot.unset).toArray = ls at hl ⊢
  have hl : lv_has ls 4 [(0, .ref (ad 0)), (1, .int p0)] := hl
  have L4 : ∀ (f : Nat) (v1 : Int32) (v2 : Int32) (v3 : Int32), t_X7_mostAt_4 N f v1 v2 v3 σ = some r → ∀ (H : Heap) (locs : List Loc), Wd D cy 27 shM ad A s.heap σ H locs → ∀ ls : Array Slot, lv_has ls 4 [(0, .ref (ad 0)), (1, .int v1), (2, .int v2), (3, .int v3)] → Gi p l e us_X7_mostAt ({ frames := 0, cells := 0, slots := 0, locals := 0 } : Room) s m [.ref (ad 0), .int p0] below meth c D cy 27 shM ad A r σ H locs (F0 m 4 ls []) := by
    intro f
    unfold t_X7_mostAt_4
    refine loopG_ind (fun (T : Int32 → Int32 → Int32 → Hp → Option Int32) => ∀ (v1 : Int32) (v2 : Int32) (v3 : Int32), T v1 v2 v3 σ = some r → ∀ (H : Heap) (locs : List Loc), Wd D cy 27 shM ad A s.heap σ H locs → ∀ ls : Array Slot, lv_has ls 4 [(0, .ref (ad 0)), (1, .int v1), (2, .int v2), (3, .int v3)] → Gi p l e us_X7_mostAt ({ frames := 0, cells := 0, slots := 0, locals := 0 } : Room) s m [.ref (ad 0), .int p0] below meth c D cy 27 shM ad A r σ H locs (F0 m 4 ls [])) ?_ ?_ f
    · intro v1 v2 v3 h; exact absurd h (by simp)
    · intro k4 ih4
      have J42 : ∀ (v1 : Int32) (v3 : Int32) (s0 : Int32), t_X7_mostAt_42 N k4 v1 v3 s0 σ = some r → ∀ (H : Heap) (locs : List Loc), Wd D cy 27 shM ad A s.heap σ H locs → ∀ ls : Array Slot, lv_has ls 4 [(0, .ref (ad 0)), (1, .int v1), (3, .int v3)] → Gi p l e us_X7_mostAt ({ frames := 0, cells := 0, slots := 0, locals := 0 } : Room) s m [.ref (ad 0), .int p0] below meth c D cy 27 shM ad A r σ H locs (F0 m 42 ls [.int s0]) := by
        intro v1 v3 s0 h H locs hW ls hl
        unfold t_X7_mostAt_42 at h
        refine lv_istore_n (lv' := [(2, .int s0), (0, .ref (ad 0)), (1, .int v1), (3, .int v3)]) hx hb dX7_mostAt_42 rfl hl (by decide) rfl (fun ls hln => ?_)
        replace hl := hln
        clear hln
        replace h := bx h
        obtain ⟨x1, ex1, h⟩ := h
        refine lv_iinc (v := x1) (lv' := [(3, .int x1), (2, .int s0), (0, .ref (ad 0)), (1, .int v1)]) hx hb dX7_mostAt_43 hl (k := 3) rfl (by rw [ex1]; rfl) (by decide) rfl (fun ls hln => ?_)
        replace hl := hln
        clear hln ex1
        refine lv_goto (tgt := 4) hx hb dX7_mostAt_46 (by decide) ?_
        exact ih4 _ _ _ h _ _ hW _ (lv_sub hl [2, 3, 1, 0] rfl)
      intro v1 v2 v3 h H locs hW ls hl
      refine lv_iload_n hx hb dX7_mostAt_4 rfl (lv_at hl 3 rfl) ?_
      refine lv_aload_n hx hb dX7_mostAt_5 rfl (lv_at hl 0 rfl) ?_
      refine r_geti hC hW 0 (Nat.le_of_ble_eq_true rfl) rfl rfl rfl (by decide) inUX7 (hts _ wd_294) rfl dX7_mostAt_6 ?_
      refine lv_icmp_ge (tgt := 49) hx hb dX7_mostAt_9 (by decide) (fun cq => ?_) (fun cq => ?_)
      · replace h := tp cq h
        refine lv_iload_n hx hb dX7_mostAt_49 rfl (lv_at hl 2 rfl) ?_
        exact r_iretP hC hr hlocks h hW dX7_mostAt_50
      · replace h := tn cq h
        refine lv_aload_n hx hb dX7_mostAt_12 rfl (lv_at hl 0 rfl) ?_
        refine r_getr hC hW 35 (Nat.le_of_ble_eq_true rfl) rfl rfl rfl (by decide) inUX7 (hts _ wd_355) rfl dX7_mostAt_13 ?_
        refine lv_bipush (v := 7) hx hb dX7_mostAt_16 (by decide) ?_
        refine lv_iload_n hx hb dX7_mostAt_18 rfl (lv_at hl 1 rfl) ?_
        refine lv_imul hx hb dX7_mostAt_19 ?_
        refine lv_iload_n hx hb dX7_mostAt_20 rfl (lv_at hl 3 rfl) ?_
        refine lv_iadd hx hb dX7_mostAt_21 ?_
        replace h := og h
        obtain ⟨hi, h⟩ := h
        refine r_ald hC hW (Nat.le_of_ble_eq_true rfl) rfl hi dX7_mostAt_22 ?_
        refine lv_iload_n hx hb dX7_mostAt_23 rfl (lv_at hl 2 rfl) ?_
        refine lv_icmp_le (tgt := 41) hx hb dX7_mostAt_24 (by decide) (fun cq => ?_) (fun cq => ?_)
        · replace h := tp cq h
          refine lv_iload_n hx hb dX7_mostAt_41 rfl (lv_at hl 2 rfl) ?_
          exact J42 _ _ _ h _ _ hW _ (lv_sub hl [0, 1, 3] rfl)
        · replace h := tn cq h
          refine lv_aload_n hx hb dX7_mostAt_27 rfl (lv_at hl 0 rfl) ?_
          refine r_getr hC hW 35 (Nat.le_of_ble_eq_true rfl) rfl rfl rfl (by decide) inUX7 (hts _ wd_355) rfl dX7_mostAt_28 ?_
          refine lv_bipush (v := 7) hx hb dX7_mostAt_31 (by decide) ?_
          refine lv_iload_n hx hb dX7_mostAt_33 rfl (lv_at hl 1 rfl) ?_
          refine lv_imul hx hb dX7_mostAt_34 ?_
          refine lv_iload_n hx hb dX7_mostAt_35 rfl (lv_at hl 3 rfl) ?_
          refine lv_iadd hx hb dX7_mostAt_36 ?_
          replace h := og h
          obtain ⟨hi, h⟩ := h
          refine r_ald hC hW (Nat.le_of_ble_eq_true rfl) rfl hi dX7_mostAt_37 ?_
          refine lv_goto (tgt := 42) hx hb dX7_mostAt_38 (by decide) ?_
          exact J42 _ _ _ h _ _ hW _ (lv_sub hl [0, 1, 3] rfl)
  refine lv_iconst (v := 0) hx hb dX7_mostAt_0 (by decide) ?_
  refine lv_istore_n (lv' := [(2, .int 0), (0, .ref (ad 0)), (1, .int p0)]) hx hb dX7_mostAt_1 rfl hl (by decide) rfl (fun ls hln => ?_)
  replace hl := hln
  clear hln
  refine lv_iconst (v := 0) hx hb dX7_mostAt_2 (by decide) ?_
  refine lv_istore_n (lv' := [(3, .int 0), (2, .int 0), (0, .ref (ad 0)), (1, .int p0)]) hx hb dX7_mostAt_3 rfl hl (by decide) rfl (fun ls hln => ?_)
  replace hl := hln
  clear hln
  exact L4 _ _ _ _ h _ _ hW _ (lv_sub hl [2, 3, 1, 0] rfl)
set_option maxHeartbeats 4000000 in
set_option maxRecDepth 100000 in
theorem c_X7_ask (l : Launch) (D : va_G) (cy : ClassId × ClassId) (ad : Nat → Nat) (A : Nat → Prop) (N : Nat) (p0 : Int32) (σ : Hp) (r : Int32) (σ' : Hp) (h : t_X7_ask N p0 σ = some (r, σ')) : Ci l yX7_ask us_X7_ask ({ frames := 5, cells := 0, slots := 0, locals := 111 } : Room) D cy 27 shM ad A [.ref (ad 0), .int p0] σ r σ' := by
  unfold t_X7_ask at h
  refine Met.ofW (cc := cX7_ask) (maxL := 5) (ret := (some .int)) (by decide) rfl ?_
  intro p e s m args below meth c s₁ B hml hv
  obtain ⟨rfl, hP, hK, hD, hA, hN⟩ := hv
  have hx := B.exec
  have hb := B.bytes
  have hr := B.returns
  have hlocks := B.notSynchronized
  have hts : ∀ w ∈ wsU, w.before _ s = true := fun w h => atoms_spec (ws := us_X7_ask) B.pre w (List.mem_cons_of_mem _ h)
  have hown : s.vm.findClass RX7 = some m.cls := findClass_of_methodNamed B.named
  have hC : Cx p m c cX7_ask 5 s _ wsU RX7 D cy := ⟨⟨hx, hb, hml, hown, hts⟩, hK, hN⟩
  have hW : Wd D cy 27 shM ad A s.heap σ s.heap [] := ⟨hP, hD, va_S.rf, hA⟩
  have hl := lv_entry ([.ref (ad 0), .int p0]) (n := 5) (Nat.le_of_ble_eq_true rfl)
  rw [lg_entry_eq]
  generalize (lg_sl ([.ref (ad 0), .int p0]) ++ List.replicate (5 - (lg_sl ([.ref (ad 0), .int p0])).length) Slot.unset).toArray = ls at hl ⊢
  have hl : lv_has ls 5 [(0, .ref (ad 0)), (1, .int p0)] := hl
  have L41 : ∀ (f : Nat) (v1 : Int32) (v3 : Int32) (v4 : Int32) (σ : Hp), t_X7_ask_41 N f v1 v3 v4 σ = some (r, σ') → ∀ (H : Heap) (locs : List Loc), Wd D cy 27 shM ad A s.heap σ H locs → ∀ ls : Array Slot, lv_has ls 5 [(0, .ref (ad 0)), (1, .int v1), (3, .int v3), (4, .int v4)] → Gi p l e us_X7_ask ({ frames := 5, cells := 0, slots := 0, locals := 111 } : Room) s m [.ref (ad 0), .int p0] below meth c D cy 27 shM ad A r σ' H locs (F0 m 41 ls []) := by
    intro f
    unfold t_X7_ask_41
    refine loopG_ind (fun (T : Int32 → Int32 → Int32 → Hp → Option (Int32 × Hp)) => ∀ (v1 : Int32) (v3 : Int32) (v4 : Int32) (σ : Hp), T v1 v3 v4 σ = some (r, σ') → ∀ (H : Heap) (locs : List Loc), Wd D cy 27 shM ad A s.heap σ H locs → ∀ ls : Array Slot, lv_has ls 5 [(0, .ref (ad 0)), (1, .int v1), (3, .int v3), (4, .int v4)] → Gi p l e us_X7_ask ({ frames := 5, cells := 0, slots := 0, locals := 111 } : Room) s m [.ref (ad 0), .int p0] below meth c D cy 27 shM ad A r σ' H locs (F0 m 41 ls [])) ?_ ?_ f
    · intro v1 v3 v4 σ h; exact absurd h (by simp)
    · intro k41 ih41
      have J70 : ∀ (v1 : Int32) (v4 : Int32) (s0 : Int32) (σ : Hp), t_X7_ask_70 N k41 v1 v4 s0 σ = some (r, σ') → ∀ (H : Heap) (locs : List Loc), Wd D cy 27 shM ad A s.heap σ H locs → ∀ ls : Array Slot, lv_has ls 5 [(0, .ref (ad 0)), (1, .int v1), (4, .int v4)] → Gi p l e us_X7_ask ({ frames := 5, cells := 0, slots := 0, locals := 111 } : Room) s m [.ref (ad 0), .int p0] below meth c D cy 27 shM ad A r σ' H locs (F0 m 70 ls [.int s0]) := by
        intro v1 v4 s0 σ h H locs hW ls hl
        unfold t_X7_ask_70 at h
        refine lv_istore_n (lv' := [(3, .int s0), (0, .ref (ad 0)), (1, .int v1), (4, .int v4)]) hx hb dX7_ask_70 rfl hl (by decide) rfl (fun ls hln => ?_)
        replace hl := hln
        clear hln
        replace h := bx h
        obtain ⟨x1, ex1, h⟩ := h
        refine lv_iinc (v := x1) (lv' := [(4, .int x1), (3, .int s0), (0, .ref (ad 0)), (1, .int v1)]) hx hb dX7_ask_71 hl (k := 3) rfl (by rw [ex1]; rfl) (by decide) rfl (fun ls hln => ?_)
        replace hl := hln
        clear hln ex1
        refine lv_goto (tgt := 41) hx hb dX7_ask_74 (by decide) ?_
        exact ih41 _ _ _ _ h _ _ hW _ (lv_sub hl [2, 3, 1, 0] rfl)
      intro v1 v3 v4 σ h H locs hW ls hl
      refine lv_iload hx hb dX7_ask_41 (lv_at hl 3 rfl) ?_
      refine lv_aload_n hx hb dX7_ask_43 rfl (lv_at hl 0 rfl) ?_
      refine r_geti hC hW 0 (Nat.le_of_ble_eq_true rfl) rfl rfl rfl (by decide) inUX7 (hts _ wd_294) rfl dX7_ask_44 ?_
      refine lv_icmp_ge (tgt := 77) hx hb dX7_ask_47 (by decide) (fun cq => ?_) (fun cq => ?_)
      · replace h := tp cq h
        refine lv_iload_n hx hb dX7_ask_77 rfl (lv_at hl 1 rfl) ?_
        refine lv_if_ne (tgt := 85) hx hb dX7_ask_78 (by decide) (fun cq => ?_) (fun cq => ?_)
        · replace h := tn cq h
          refine lv_aload_n hx hb dX7_ask_85 rfl (lv_at hl 0 rfl) ?_
          refine lv_iload_n hx hb dX7_ask_86 rfl (lv_at hl 2 rfl) ?_
          replace h := bd h
          obtain ⟨r2, hc, h⟩ := h
          refine r_calli hW (va_runV (As := [.int v3]) (rest := []) hC.1 (c_X7_mostAt l D cy ad A N _ _ _ hc) (cwV 1 hts (gdV wd_391 wd_392 wd_393 wd_300 wd_390) rfl rfl rfl (by decide +kernel) ⟨Nat.le_of_ble_eq_true rfl, Nat.le_of_ble_eq_true rfl⟩) (r_preV hC hW (Nat.le_of_ble_eq_true rfl) rfl rfl) rfl rfl hl.1 rfl (lv_room (Nat.le_of_ble_eq_true rfl)) dX7_ask_87 ⟨Nat.zero_le _, Nat.zero_le _⟩) (fun H locs hWn => ?_)
          replace hW := hWn
          clear hWn hc
          exact r_iretW hC hr hlocks h hW dX7_ask_90
        · replace h := tp cq h
          refine lv_iload_n hx hb dX7_ask_81 rfl (lv_at hl 2 rfl) ?_
          refine lv_goto (tgt := 90) hx hb dX7_ask_82 (by decide) ?_
          exact r_iretW hC hr hlocks h hW dX7_ask_90
      · replace h := tn cq h
        refine lv_aload_n hx hb dX7_ask_50 rfl (lv_at hl 0 rfl) ?_
        refine lv_iload hx hb dX7_ask_51 (lv_at hl 3 rfl) ?_
        replace h := bd h
        obtain ⟨r3, hc, h⟩ := h
        refine r_calli hW (va_runV (As := [.int v4]) (rest := []) hC.1 (c_X7_mostAt l D cy ad A N _ _ _ hc) (cwV 1 hts (gdV wd_391 wd_392 wd_393 wd_300 wd_390) rfl rfl rfl (by decide +kernel) ⟨Nat.le_of_ble_eq_true rfl, Nat.le_of_ble_eq_true rfl⟩) (r_preV hC hW (Nat.le_of_ble_eq_true rfl) rfl rfl) rfl rfl hl.1 rfl (lv_room (Nat.le_of_ble_eq_true rfl)) dX7_ask_53 ⟨Nat.zero_le _, Nat.zero_le _⟩) (fun H locs hWn => ?_)
        replace hW := hWn
        clear hWn hc
        refine lv_aload_n hx hb dX7_ask_56 rfl (lv_at hl 0 rfl) ?_
        refine lv_iload_n hx hb dX7_ask_57 rfl (lv_at hl 2 rfl) ?_
        replace h := bd h
        obtain ⟨r4, hc, h⟩ := h
        refine r_calli hW (va_runV (As := [.int v3]) (rest := [.int r3]) hC.1 (c_X7_mostAt l D cy ad A N _ _ _ hc) (cwV 1 hts (gdV wd_391 wd_392 wd_393 wd_300 wd_390) rfl rfl rfl (by decide +kernel) ⟨Nat.le_of_ble_eq_true rfl, Nat.le_of_ble_eq_true rfl⟩) (r_preV hC hW (Nat.le_of_ble_eq_true rfl) rfl rfl) rfl rfl hl.1 rfl (lv_room (Nat.le_of_ble_eq_true rfl)) dX7_ask_58 ⟨Nat.zero_le _, Nat.zero_le _⟩) (fun H locs hWn => ?_)
        replace hW := hWn
        clear hWn hc
        refine lv_icmp_ge (tgt := 69) hx hb dX7_ask_61 (by decide) (fun cq => ?_) (fun cq => ?_)
        · replace h := tp cq h
          refine lv_iload_n hx hb dX7_ask_69 rfl (lv_at hl 2 rfl) ?_
          exact J70 _ _ _ _ h _ _ hW _ (lv_sub hl [0, 1, 3] rfl)
        · replace h := tn cq h
          refine lv_iload hx hb dX7_ask_64 (lv_at hl 3 rfl) ?_
          refine lv_goto (tgt := 70) hx hb dX7_ask_66 (by decide) ?_
          exact J70 _ _ _ _ h _ _ hW _ (lv_sub hl [0, 1, 3] rfl)
  refine lv_iload_n hx hb dX7_ask_0 rfl (lv_at hl 1 rfl) ?_
  refine lv_i2l hx hb dX7_ask_1 rfl ?_
  refine lv_lconst (v := 0) hx hb dX7_ask_2 (by decide) ?_
  refine lv_lconst (v := 1) hx hb dX7_ask_3 (by decide) ?_
  replace h := bd h
  obtain ⟨r5, hc, h⟩ := h
  refine r_calli hW (va_runS (As := [.long (p0.toInt64), .long 0, .long 1]) (rest := []) hC.1 (c_X7_in l D cy ad A _ _ _ _ _ hc) (va_cwS 3 hts (gdS wd_298 wd_299 wd_300 wd_297) rfl rfl rfl (by decide +kernel) ⟨Nat.le_of_ble_eq_true rfl, Nat.le_of_ble_eq_true rfl⟩) (r_preS hC hW) rfl rfl hl.1 rfl (lv_room (Nat.le_of_ble_eq_true rfl)) dX7_ask_4 ⟨Nat.zero_le _, Nat.zero_le _⟩) (fun H locs hWn => ?_)
  replace hW := hWn
  clear hWn hc
  refine lv_if_ne (tgt := 13) hx hb dX7_ask_7 (by decide) (fun cq => ?_) (fun cq => ?_)
  · replace h := tn cq h
    refine lv_aload_n hx hb dX7_ask_13 rfl (lv_at hl 0 rfl) ?_
    replace h := ob h
    obtain ⟨r6, σ7, hc, h⟩ := h
    refine r_calli hW (va_runV (As := []) (rest := []) hC.1 (c_X7_goFits l D cy ad A N _ _ _ hc) (cwV 0 hts (gdV wd_395 wd_396 wd_397 wd_300 wd_394) rfl rfl rfl (by decide +kernel) ⟨Nat.le_of_ble_eq_true rfl, Nat.le_of_ble_eq_true rfl⟩) (r_preV hC hW (Nat.le_of_ble_eq_true rfl) rfl rfl) rfl rfl hl.1 rfl (lv_room (Nat.le_of_ble_eq_true rfl)) dX7_ask_14 ⟨Nat.zero_le _, Nat.zero_le _⟩) (fun H locs hWn => ?_)
    replace hW := hWn
    clear hWn hc
    refine lv_istore_n (lv' := [(2, .int r6), (0, .ref (ad 0)), (1, .int p0)]) hx hb dX7_ask_17 rfl hl (by decide) rfl (fun ls hln => ?_)
    replace hl := hln
    clear hln
    refine lv_iload_n hx hb dX7_ask_18 rfl (lv_at hl 0 rfl) ?_
    refine lv_bipush (v := (-6)) hx hb dX7_ask_19 (by decide) ?_
    refine lv_icmp_eq (tgt := 26) hx hb dX7_ask_21 (by decide) (fun cq => ?_) (fun cq => ?_)
    · replace h := tp cq h
      refine lv_aload_n hx hb dX7_ask_26 rfl (lv_at hl 1 rfl) ?_
      refine r_geti hC hW 33 (Nat.le_of_ble_eq_true rfl) rfl rfl rfl (by decide) inUX7 (hts _ wd_356) rfl dX7_ask_27 ?_
      refine lv_if_ne (tgt := 36) hx hb dX7_ask_30 (by decide) (fun cq => ?_) (fun cq => ?_)
      · replace h := tn cq h
        refine lv_iconst (v := 0) hx hb dX7_ask_36 (by decide) ?_
        refine lv_istore_n (lv' := [(3, .int 0), (2, .int r6), (0, .ref (ad 0)), (1, .int p0)]) hx hb dX7_ask_37 rfl hl (by decide) rfl (fun ls hln => ?_)
        replace hl := hln
        clear hln
        refine lv_iconst (v := 1) hx hb dX7_ask_38 (by decide) ?_
        refine lv_istore (lv' := [(4, .int 1), (3, .int 0), (2, .int r6), (0, .ref (ad 0)), (1, .int p0)]) hx hb dX7_ask_39 hl (by decide) rfl (fun ls hln => ?_)
        replace hl := hln
        clear hln
        exact L41 _ _ _ _ _ h _ _ hW _ (lv_sub hl [3, 4, 1, 0] rfl)
      · replace h := tp cq h
        refine lv_bipush (v := (-6)) hx hb dX7_ask_33 (by decide) ?_
        exact r_iretW hC hr hlocks h hW dX7_ask_35
    · replace h := tn cq h
      refine lv_iload_n hx hb dX7_ask_24 rfl (lv_at hl 0 rfl) ?_
      exact r_iretW hC hr hlocks h hW dX7_ask_25
  · replace h := tp cq h
    refine lv_bipush (v := (-2)) hx hb dX7_ask_10 (by decide) ?_
    exact r_iretW hC hr hlocks h hW dX7_ask_12
set_option maxHeartbeats 4000000 in
set_option maxRecDepth 100000 in
theorem c_X7_begin (l : Launch) (D : va_G) (cy : ClassId × ClassId) (ad : Nat → Nat) (A : Nat → Prop) (N : Nat) (p0 : Int32) (σ : Hp) (σ' : Hp) (h : t_X7_begin N p0 σ = some σ') : Cv l yX7_begin us_X7_begin ({ frames := 0, cells := 0, slots := 0, locals := 0 } : Room) D cy 27 shM ad A [.ref (ad 0), .int p0] σ σ' := by
  unfold t_X7_begin at h
  refine Met.ofW (cc := cX7_begin) (maxL := 3) (ret := none) (by decide) rfl ?_
  intro p e s m args below meth c s₁ B hml hv
  obtain ⟨rfl, hP, hK, hD, hA, hN⟩ := hv
  have hx := B.exec
  have hb := B.bytes
  have hr := B.returns
  have hlocks := B.notSynchronized
  have hts : ∀ w ∈ wsU, w.before _ s = true := fun w h => atoms_spec (ws := us_X7_begin) B.pre w (List.mem_cons_of_mem _ h)
  have hown : s.vm.findClass RX7 = some m.cls := findClass_of_methodNamed B.named
  have hC : Cx p m c cX7_begin 3 s _ wsU RX7 D cy := ⟨⟨hx, hb, hml, hown, hts⟩, hK, hN⟩
  have hW : Wd D cy 27 shM ad A s.heap σ s.heap [] := ⟨hP, hD, va_S.rf, hA⟩
  have hl := lv_entry ([.ref (ad 0), .int p0]) (n := 3) (Nat.le_of_ble_eq_true rfl)
  rw [lg_entry_eq]
  generalize (lg_sl ([.ref (ad 0), .int p0]) ++ List.replicate (3 - (lg_sl ([.ref (ad 0), .int p0])).length) Slot.unset).toArray = ls at hl ⊢
  have hl : lv_has ls 3 [(0, .ref (ad 0)), (1, .int p0)] := hl
  have L22 : ∀ (f : Nat) (v2 : Int32) (σ : Hp), t_X7_begin_22 N f v2 σ = some σ' → ∀ (H : Heap) (locs : List Loc), Wd D cy 27 shM ad A s.heap σ H locs → ∀ ls : Array Slot, lv_has ls 3 [(0, .ref (ad 0)), (2, .int v2)] → Gv p l e us_X7_begin ({ frames := 0, cells := 0, slots := 0, locals := 0 } : Room) s m [.ref (ad 0), .int p0] below meth c D cy 27 shM ad A σ' H locs (F0 m 22 ls []) := by
    intro f
    unfold t_X7_begin_22
    refine loopG_ind (fun (T : Int32 → Hp → Option Hp) => ∀ (v2 : Int32) (σ : Hp), T v2 σ = some σ' → ∀ (H : Heap) (locs : List Loc), Wd D cy 27 shM ad A s.heap σ H locs → ∀ ls : Array Slot, lv_has ls 3 [(0, .ref (ad 0)), (2, .int v2)] → Gv p l e us_X7_begin ({ frames := 0, cells := 0, slots := 0, locals := 0 } : Room) s m [.ref (ad 0), .int p0] below meth c D cy 27 shM ad A σ' H locs (F0 m 22 ls [])) ?_ ?_ f
    · intro v2 σ h; exact absurd h (by simp)
    · intro k22 ih22
      intro v2 σ h H locs hW ls hl
      refine lv_iload_n hx hb dX7_begin_22 rfl (lv_at hl 1 rfl) ?_
      refine lv_bipush (v := 7) hx hb dX7_begin_23 (by decide) ?_
      refine lv_icmp_ge (tgt := 79) hx hb dX7_begin_25 (by decide) (fun cq => ?_) (fun cq => ?_)
      · replace h := tp cq h
        exact r_vretW hC hr hlocks h hW dX7_begin_79
      · replace h := tn cq h
        refine lv_aload_n hx hb dX7_begin_28 rfl (lv_at hl 0 rfl) ?_
        refine r_getr hC hW 1 (Nat.le_of_ble_eq_true rfl) rfl rfl rfl (by decide) inUX7 (hts _ wd_325) rfl dX7_begin_29 ?_
        refine lv_iload_n hx hb dX7_begin_32 rfl (lv_at hl 1 rfl) ?_
        refine lv_iconst (v := 3) hx hb dX7_begin_33 (by decide) ?_
        replace h := og h
        obtain ⟨hi, h⟩ := h
        refine r_ast hC hW (Nat.le_of_ble_eq_true rfl) rfl hi dX7_begin_34 (fun σ1 eσ1 H locs hWn => ?_)
        replace h := bn eσ1 h
        replace hW := hWn
        clear hWn eσ1
        refine lv_aload_n hx hb dX7_begin_35 rfl (lv_at hl 0 rfl) ?_
        refine r_getr hC hW 2 (Nat.le_of_ble_eq_true rfl) rfl rfl rfl (by decide) inUX7 (hts _ wd_317) rfl dX7_begin_36 ?_
        refine lv_iload_n hx hb dX7_begin_39 rfl (lv_at hl 1 rfl) ?_
        refine lv_iconst (v := 0) hx hb dX7_begin_40 (by decide) ?_
        replace h := og h
        obtain ⟨hi, h⟩ := h
        refine r_ast hC hW (Nat.le_of_ble_eq_true rfl) rfl hi dX7_begin_41 (fun σ2 eσ2 H locs hWn => ?_)
        replace h := bn eσ2 h
        replace hW := hWn
        clear hWn eσ2
        refine lv_aload_n hx hb dX7_begin_42 rfl (lv_at hl 0 rfl) ?_
        refine r_getr hC hW 3 (Nat.le_of_ble_eq_true rfl) rfl rfl rfl (by decide) inUX7 (hts _ wd_398) rfl dX7_begin_43 ?_
        refine lv_iload_n hx hb dX7_begin_46 rfl (lv_at hl 1 rfl) ?_
        refine lv_iconst (v := 1) hx hb dX7_begin_47 (by decide) ?_
        replace h := og h
        obtain ⟨hi, h⟩ := h
        refine r_ast hC hW (Nat.le_of_ble_eq_true rfl) rfl hi dX7_begin_48 (fun σ3 eσ3 H locs hWn => ?_)
        replace h := bn eσ3 h
        replace hW := hWn
        clear hWn eσ3
        refine lv_aload_n hx hb dX7_begin_49 rfl (lv_at hl 0 rfl) ?_
        refine r_getr hC hW 4 (Nat.le_of_ble_eq_true rfl) rfl rfl rfl (by decide) inUX7 (hts _ wd_318) rfl dX7_begin_50 ?_
        refine lv_iload_n hx hb dX7_begin_53 rfl (lv_at hl 1 rfl) ?_
        refine lv_iload_n hx hb dX7_begin_54 rfl (lv_at hl 1 rfl) ?_
        refine lv_bipush (v := 6) hx hb dX7_begin_55 (by decide) ?_
        refine lv_irem hx hb dX7_begin_57 (by decide) ?_
        replace h := og h
        obtain ⟨hi, h⟩ := h
        refine r_ast hC hW (Nat.le_of_ble_eq_true rfl) rfl hi dX7_begin_58 (fun σ4 eσ4 H locs hWn => ?_)
        replace h := bn eσ4 h
        replace hW := hWn
        clear hWn eσ4
        refine lv_aload_n hx hb dX7_begin_59 rfl (lv_at hl 0 rfl) ?_
        refine r_getr hC hW 5 (Nat.le_of_ble_eq_true rfl) rfl rfl rfl (by decide) inUX7 (hts _ wd_295) rfl dX7_begin_60 ?_
        refine lv_iload_n hx hb dX7_begin_63 rfl (lv_at hl 1 rfl) ?_
        refine lv_iconst (v := 0) hx hb dX7_begin_64 (by decide) ?_
        replace h := og h
        obtain ⟨hi, h⟩ := h
        refine r_ast hC hW (Nat.le_of_ble_eq_true rfl) rfl hi dX7_begin_65 (fun σ5 eσ5 H locs hWn => ?_)
        replace h := bn eσ5 h
        replace hW := hWn
        clear hWn eσ5
        refine lv_aload_n hx hb dX7_begin_66 rfl (lv_at hl 0 rfl) ?_
        refine r_getr hC hW 6 (Nat.le_of_ble_eq_true rfl) rfl rfl rfl (by decide) inUX7 (hts _ wd_399) rfl dX7_begin_67 ?_
        refine lv_iload_n hx hb dX7_begin_70 rfl (lv_at hl 1 rfl) ?_
        refine lv_iload_n hx hb dX7_begin_71 rfl (lv_at hl 1 rfl) ?_
        replace h := og h
        obtain ⟨hi, h⟩ := h
        refine r_ast hC hW (Nat.le_of_ble_eq_true rfl) rfl hi dX7_begin_72 (fun σ6 eσ6 H locs hWn => ?_)
        replace h := bn eσ6 h
        replace hW := hWn
        clear hWn eσ6
        replace h := bx h
        obtain ⟨x7, ex7, h⟩ := h
        refine lv_iinc (v := x7) (lv' := [(2, .int x7), (0, .ref (ad 0))]) hx hb dX7_begin_73 hl (k := 1) rfl (by rw [ex7]; rfl) (by decide) rfl (fun ls hln => ?_)
        replace hl := hln
        clear hln ex7
        refine lv_goto (tgt := 22) hx hb dX7_begin_76 (by decide) ?_
        exact ih22 _ _ h _ _ hW _ (lv_sub hl [1, 0] rfl)
  refine lv_aload_n hx hb dX7_begin_0 rfl (lv_at hl 0 rfl) ?_
  refine lv_iload_n hx hb dX7_begin_1 rfl (lv_at hl 1 rfl) ?_
  refine r_put hC hW 0 (Nat.le_of_ble_eq_true rfl) rfl rfl rfl (by decide) inUX7 tyX7 tyX7_ok nmX7 (hts _ wd_294) rfl rfl ⟨rfl, rfl⟩ dX7_begin_2 (fun σ8 eσ8 H locs hWn => ?_)
  replace h := bn eσ8 h
  replace hW := hWn
  clear hWn eσ8
  refine lv_aload_n hx hb dX7_begin_5 rfl (lv_at hl 0 rfl) ?_
  refine lv_iconst (v := 0) hx hb dX7_begin_6 (by decide) ?_
  refine r_put hC hW 7 (Nat.le_of_ble_eq_true rfl) rfl rfl rfl (by decide) inUX7 tyX7 tyX7_ok nmX7 (hts _ wd_316) rfl rfl ⟨rfl, rfl⟩ dX7_begin_7 (fun σ9 eσ9 H locs hWn => ?_)
  replace h := bn eσ9 h
  replace hW := hWn
  clear hWn eσ9
  refine lv_aload_n hx hb dX7_begin_10 rfl (lv_at hl 0 rfl) ?_
  refine lv_iconst (v := 0) hx hb dX7_begin_11 (by decide) ?_
  refine r_put hC hW 11 (Nat.le_of_ble_eq_true rfl) rfl rfl rfl (by decide) inUX7 tyX7 tyX7_ok nmX7 (hts _ wd_320) rfl rfl ⟨rfl, rfl⟩ dX7_begin_12 (fun σ10 eσ10 H locs hWn => ?_)
  replace h := bn eσ10 h
  replace hW := hWn
  clear hWn eσ10
  refine lv_aload_n hx hb dX7_begin_15 rfl (lv_at hl 0 rfl) ?_
  refine lv_iconst (v := 0) hx hb dX7_begin_16 (by decide) ?_
  refine r_put hC hW 14 (Nat.le_of_ble_eq_true rfl) rfl rfl rfl (by decide) inUX7 tyX7 tyX7_ok nmX7 (hts _ wd_343) rfl rfl ⟨rfl, rfl⟩ dX7_begin_17 (fun σ11 eσ11 H locs hWn => ?_)
  replace h := bn eσ11 h
  replace hW := hWn
  clear hWn eσ11
  refine lv_iconst (v := 0) hx hb dX7_begin_20 (by decide) ?_
  refine lv_istore_n (lv' := [(2, .int 0), (0, .ref (ad 0)), (1, .int p0)]) hx hb dX7_begin_21 rfl hl (by decide) rfl (fun ls hln => ?_)
  replace hl := hln
  clear hln
  exact L22 _ _ _ h _ _ hW _ (lv_sub hl [1, 0] rfl)
set_option maxHeartbeats 4000000 in
set_option maxRecDepth 100000 in
theorem c_X7_layOrder (l : Launch) (D : va_G) (cy : ClassId × ClassId) (ad : Nat → Nat) (A : Nat → Prop) (N : Nat) (σ : Hp) (σ' : Hp) (h : t_X7_layOrder N σ = some σ') : Cv l yX7_layOrder us_X7_layOrder ({ frames := 0, cells := 0, slots := 0, locals := 0 } : Room) D cy 27 shM ad A [.ref (ad 0)] σ σ' := by
  unfold t_X7_layOrder at h
  refine Met.ofW (cc := cX7_layOrder) (maxL := 2) (ret := none) (by decide) rfl ?_
  intro p e s m args below meth c s₁ B hml hv
  obtain ⟨rfl, hP, hK, hD, hA, hN⟩ := hv
  have hx := B.exec
  have hb := B.bytes
  have hr := B.returns
  have hlocks := B.notSynchronized
  have hts : ∀ w ∈ wsU, w.before _ s = true := fun w h => atoms_spec (ws := us_X7_layOrder) B.pre w (List.mem_cons_of_mem _ h)
  have hown : s.vm.findClass RX7 = some m.cls := findClass_of_methodNamed B.named
  have hC : Cx p m c cX7_layOrder 2 s _ wsU RX7 D cy := ⟨⟨hx, hb, hml, hown, hts⟩, hK, hN⟩
  have hW : Wd D cy 27 shM ad A s.heap σ s.heap [] := ⟨hP, hD, va_S.rf, hA⟩
  have hl := lv_entry ([.ref (ad 0)]) (n := 2) (Nat.le_of_ble_eq_true rfl)
  rw [lg_entry_eq]
  generalize (lg_sl ([.ref (ad 0)]) ++ List.replicate (2 - (lg_sl ([.ref (ad 0)])).length) Slot.unset).toArray = ls at hl ⊢
  have hl : lv_has ls 2 [(0, .ref (ad 0))] := hl
  have L2 : ∀ (f : Nat) (v1 : Int32) (σ : Hp), t_X7_layOrder_2 N f v1 σ = some σ' → ∀ (H : Heap) (locs : List Loc), Wd D cy 27 shM ad A s.heap σ H locs → ∀ ls : Array Slot, lv_has ls 2 [(0, .ref (ad 0)), (1, .int v1)] → Gv p l e us_X7_layOrder ({ frames := 0, cells := 0, slots := 0, locals := 0 } : Room) s m [.ref (ad 0)] below meth c D cy 27 shM ad A σ' H locs (F0 m 2 ls []) := by
    intro f
    unfold t_X7_layOrder_2
    refine loopG_ind (fun (T : Int32 → Hp → Option Hp) => ∀ (v1 : Int32) (σ : Hp), T v1 σ = some σ' → ∀ (H : Heap) (locs : List Loc), Wd D cy 27 shM ad A s.heap σ H locs → ∀ ls : Array Slot, lv_has ls 2 [(0, .ref (ad 0)), (1, .int v1)] → Gv p l e us_X7_layOrder ({ frames := 0, cells := 0, slots := 0, locals := 0 } : Room) s m [.ref (ad 0)] below meth c D cy 27 shM ad A σ' H locs (F0 m 2 ls [])) ?_ ?_ f
    · intro v1 σ h; exact absurd h (by simp)
    · intro k2 ih2
      intro v1 σ h H locs hW ls hl
      refine lv_iload_n hx hb dX7_layOrder_2 rfl (lv_at hl 1 rfl) ?_
      refine lv_bipush (v := 7) hx hb dX7_layOrder_3 (by decide) ?_
      refine lv_icmp_ge (tgt := 26) hx hb dX7_layOrder_5 (by decide) (fun cq => ?_) (fun cq => ?_)
      · replace h := tp cq h
        exact r_vretW hC hr hlocks h hW dX7_layOrder_26
      · replace h := tn cq h
        refine lv_aload_n hx hb dX7_layOrder_8 rfl (lv_at hl 0 rfl) ?_
        refine r_getr hC hW 22 (Nat.le_of_ble_eq_true rfl) rfl rfl rfl (by decide) inUX7 (hts _ wd_324) rfl dX7_layOrder_9 ?_
        refine lv_iload_n hx hb dX7_layOrder_12 rfl (lv_at hl 1 rfl) ?_
        refine lv_aload_n hx hb dX7_layOrder_13 rfl (lv_at hl 0 rfl) ?_
        refine r_getr hC hW 6 (Nat.le_of_ble_eq_true rfl) rfl rfl rfl (by decide) inUX7 (hts _ wd_399) rfl dX7_layOrder_14 ?_
        refine lv_iload_n hx hb dX7_layOrder_17 rfl (lv_at hl 1 rfl) ?_
        replace h := og h
        obtain ⟨hi, h⟩ := h
        refine r_ald hC hW (Nat.le_of_ble_eq_true rfl) rfl hi dX7_layOrder_18 ?_
        replace h := og h
        obtain ⟨hi, h⟩ := h
        refine r_ast hC hW (Nat.le_of_ble_eq_true rfl) rfl hi dX7_layOrder_19 (fun σ1 eσ1 H locs hWn => ?_)
        replace h := bn eσ1 h
        replace hW := hWn
        clear hWn eσ1
        replace h := bx h
        obtain ⟨x2, ex2, h⟩ := h
        refine lv_iinc (v := x2) (lv' := [(1, .int x2), (0, .ref (ad 0))]) hx hb dX7_layOrder_20 hl (k := 1) rfl (by rw [ex2]; rfl) (by decide) rfl (fun ls hln => ?_)
        replace hl := hln
        clear hln ex2
        refine lv_goto (tgt := 2) hx hb dX7_layOrder_23 (by decide) ?_
        exact ih2 _ _ h _ _ hW _ (lv_sub hl [1, 0] rfl)
  refine lv_iconst (v := 0) hx hb dX7_layOrder_0 (by decide) ?_
  refine lv_istore_n (lv' := [(1, .int 0), (0, .ref (ad 0))]) hx hb dX7_layOrder_1 rfl hl (by decide) rfl (fun ls hln => ?_)
  replace hl := hln
  clear hln
  exact L2 _ _ _ h _ _ hW _ (lv_sub hl [1, 0] rfl)
set_option maxHeartbeats 4000000 in
set_option maxRecDepth 100000 in
theorem c_X7_stateOf (l : Launch) (D : va_G) (cy : ClassId × ClassId) (ad : Nat → Nat) (A : Nat → Prop) (p0 : Int32) (p1 : Int32) (σ : Hp) (r : Int32) (h : t_X7_stateOf p0 p1 σ = some r) : Ci l yX7_stateOf us_X7_stateOf ({ frames := 0, cells := 0, slots := 0, locals := 0 } : Room) D cy 27 shM ad A [.ref (ad 0), .int p0, .int p1] σ r σ := by
  unfold t_X7_stateOf at h
  refine Met.ofW (cc := cX7_stateOf) (maxL := 3) (ret := (some .int)) (by decide) rfl ?_
  intro p e s m args below meth c s₁ B hml hv
  obtain ⟨rfl, hP, hK, hD, hA, hN⟩ := hv
  have hx := B.exec
  have hb := B.bytes
  have hr := B.returns
  have hlocks := B.notSynchronized
  have hts : ∀ w ∈ wsU, w.before _ s = true := fun w h => atoms_spec (ws := us_X7_stateOf) B.pre w (List.mem_cons_of_mem _ h)
  have hown : s.vm.findClass RX7 = some m.cls := findClass_of_methodNamed B.named
  have hC : Cx p m c cX7_stateOf 3 s _ wsU RX7 D cy := ⟨⟨hx, hb, hml, hown, hts⟩, hK, hN⟩
  have hW : Wd D cy 27 shM ad A s.heap σ s.heap [] := ⟨hP, hD, va_S.rf, hA⟩
  have hl := lv_entry ([.ref (ad 0), .int p0, .int p1]) (n := 3) (Nat.le_of_ble_eq_true rfl)
  rw [lg_entry_eq]
  generalize (lg_sl ([.ref (ad 0), .int p0, .int p1]) ++ List.replicate (3 - (lg_sl ([.ref (ad 0), .int p0, .int p1])).length) Slot.unset).toArray = ls at hl ⊢
  have hl : lv_has ls 3 [(0, .ref (ad 0)), (1, .int p0), (2, .int p1)] := hl
  refine lv_iload_n hx hb dX7_stateOf_0 rfl (lv_at hl 2 rfl) ?_
  refine lv_if_ne (tgt := 13) hx hb dX7_stateOf_1 (by decide) (fun cq => ?_) (fun cq => ?_)
  · replace h := tn cq h
    refine lv_iload_n hx hb dX7_stateOf_13 rfl (lv_at hl 2 rfl) ?_
    refine lv_iconst (v := 1) hx hb dX7_stateOf_14 (by decide) ?_
    refine lv_icmp_ne (tgt := 27) hx hb dX7_stateOf_15 (by decide) (fun cq => ?_) (fun cq => ?_)
    · replace h := tn cq h
      refine lv_aload_n hx hb dX7_stateOf_27 rfl (lv_at hl 0 rfl) ?_
      refine r_getr hC hW 5 (Nat.le_of_ble_eq_true rfl) rfl rfl rfl (by decide) inUX7 (hts _ wd_295) rfl dX7_stateOf_28 ?_
      refine lv_iload_n hx hb dX7_stateOf_31 rfl (lv_at hl 1 rfl) ?_
      replace h := og h
      obtain ⟨hi, h⟩ := h
      refine r_ald hC hW (Nat.le_of_ble_eq_true rfl) rfl hi dX7_stateOf_32 ?_
      exact r_iretP hC hr hlocks h hW dX7_stateOf_33
    · replace h := tp cq h
      refine lv_aload_n hx hb dX7_stateOf_18 rfl (lv_at hl 0 rfl) ?_
      refine r_getr hC hW 4 (Nat.le_of_ble_eq_true rfl) rfl rfl rfl (by decide) inUX7 (hts _ wd_318) rfl dX7_stateOf_19 ?_
      refine lv_iload_n hx hb dX7_stateOf_22 rfl (lv_at hl 1 rfl) ?_
      replace h := og h
      obtain ⟨hi, h⟩ := h
      refine r_ald hC hW (Nat.le_of_ble_eq_true rfl) rfl hi dX7_stateOf_23 ?_
      refine lv_goto (tgt := 33) hx hb dX7_stateOf_24 (by decide) ?_
      exact r_iretP hC hr hlocks h hW dX7_stateOf_33
  · replace h := tp cq h
    refine lv_aload_n hx hb dX7_stateOf_4 rfl (lv_at hl 0 rfl) ?_
    refine r_getr hC hW 2 (Nat.le_of_ble_eq_true rfl) rfl rfl rfl (by decide) inUX7 (hts _ wd_317) rfl dX7_stateOf_5 ?_
    refine lv_iload_n hx hb dX7_stateOf_8 rfl (lv_at hl 1 rfl) ?_
    replace h := og h
    obtain ⟨hi, h⟩ := h
    refine r_ald hC hW (Nat.le_of_ble_eq_true rfl) rfl hi dX7_stateOf_9 ?_
    refine lv_goto (tgt := 33) hx hb dX7_stateOf_10 (by decide) ?_
    exact r_iretP hC hr hlocks h hW dX7_stateOf_33
