set_option maxHeartbeats 4000000 in
set_option maxRecDepth 100000 in
theorem c_X7_soonest (l : Launch) (D : va_G) (cy : ClassId × ClassId) (ad : Nat → Nat) (A : Nat → Prop) (N : Nat) (p0 : Int32) (σ : Hp) (r : Int32) (h : t_X7_soonest N p0 σ = some r) : Ci l yX7_soonest us_X7_soonest ({ frames := 1, cells := 0, slots := 0, locals := 25 } : Room) D cy 27 shM ad A [.ref (ad 0), .int p0] σ r σ := by
  unfold t_X7_soonest at h
  refine Met.ofW (cc := cX7_soonest) (maxL := 8) (ret := (some .int)) (by decide) rfl ?_
  intro p e s m args below meth c s₁ B hml hv
  obtain ⟨rfl, hP, hK, hD, hA, hN⟩ := hv
  have hx := B.exec
  have hb := B.bytes
  have hr := B.returns
  have hlocks := B.notSynchronized
  have hts : ∀ w ∈ wsU, w.before _ s = true := fun w h => atoms_spec (ws := us_X7_soonest) B.pre w (List.mem_cons_of_mem _ h)
  have hown : s.vm.findClass RX7 = some m.cls := findClass_of_methodNamed B.named
  have hC : Cx p m c cX7_soonest 8 s _ wsU RX7 D cy := ⟨⟨hx, hb, hml, hown, hts⟩, hK, hN⟩
  have hW : Wd D cy 27 shM ad A s.heap σ s.heap [] := ⟨hP, hD, va_S.rf, hA⟩
  have hl := lv_entry ([.ref (ad 0), .int p0]) (n := 8) (Nat.le_of_ble_eq_true rfl)
  rw [lg_entry_eq]
  generalize (lg_sl ([.ref (ad 0), .int p0]) ++ List.replicate (8 - (lg_sl ([.ref (ad 0), .int p0])).length) Slot.unset).toArray = ls at hl ⊢
  have hl : lv_has ls 8 [(0, .ref (ad 0)), (1, .int p0)] := hl
  have L22 : ∀ (f : Nat) (v1 : Int32) (v2 : Int32) (v3 : Int32) (v4 : Int32), t_X7_soonest_22 N f v1 v2 v3 v4 σ = some r → ∀ (H : Heap) (locs : List Loc), Wd D cy 27 shM ad A s.heap σ H locs → ∀ ls : Array Slot, lv_has ls 8 [(0, .ref (ad 0)), (1, .int v1), (2, .int v2), (3, .int v3), (4, .int v4)] → Gi p l e us_X7_soonest ({ frames := 1, cells := 0, slots := 0, locals := 25 } : Room) s m [.ref (ad 0), .int p0] below meth c D cy 27 shM ad A r σ H locs (F0 m 22 ls []) := by
    intro f
    unfold t_X7_soonest_22
    refine loopG_ind (fun (T : Int32 → Int32 → Int32 → Int32 → Hp → Option Int32) => ∀ (v1 : Int32) (v2 : Int32) (v3 : Int32) (v4 : Int32), T v1 v2 v3 v4 σ = some r → ∀ (H : Heap) (locs : List Loc), Wd D cy 27 shM ad A s.heap σ H locs → ∀ ls : Array Slot, lv_has ls 8 [(0, .ref (ad 0)), (1, .int v1), (2, .int v2), (3, .int v3), (4, .int v4)] → Gi p l e us_X7_soonest ({ frames := 1, cells := 0, slots := 0, locals := 25 } : Room) s m [.ref (ad 0), .int p0] below meth c D cy 27 shM ad A r σ H locs (F0 m 22 ls [])) ?_ ?_ f
    · intro v1 v2 v3 v4 h; exact absurd h (by simp)
    · intro k22 ih22
      have J126 : ∀ (v1 : Int32) (v3 : Int32) (v4 : Int32) (s0 : Int32), t_X7_soonest_126 N k22 v1 v3 v4 s0 σ = some r → ∀ (H : Heap) (locs : List Loc), Wd D cy 27 shM ad A s.heap σ H locs → ∀ ls : Array Slot, lv_has ls 8 [(0, .ref (ad 0)), (1, .int v1), (3, .int v3), (4, .int v4)] → Gi p l e us_X7_soonest ({ frames := 1, cells := 0, slots := 0, locals := 25 } : Room) s m [.ref (ad 0), .int p0] below meth c D cy 27 shM ad A r σ H locs (F0 m 126 ls [.int s0]) := by
        intro v1 v3 v4 s0 h H locs hW ls hl
        unfold t_X7_soonest_126 at h
        refine lv_istore_n (lv' := [(2, .int s0), (0, .ref (ad 0)), (1, .int v1), (3, .int v3), (4, .int v4)]) hx hb dX7_soonest_126 rfl hl (by decide) rfl (fun ls hln => ?_)
        replace hl := hln
        clear hln
        replace h := bx h
        obtain ⟨x1, ex1, h⟩ := h
        refine lv_iinc (v := x1) (lv' := [(4, .int x1), (2, .int s0), (0, .ref (ad 0)), (1, .int v1), (3, .int v3)]) hx hb dX7_soonest_127 hl (k := 4) rfl (by rw [ex1]; rfl) (by decide) rfl (fun ls hln => ?_)
        replace hl := hln
        clear hln ex1
        refine lv_goto (tgt := 22) hx hb dX7_soonest_130 (by decide) ?_
        exact ih22 _ _ _ _ h _ _ hW _ (lv_sub hl [2, 3, 1, 4, 0] rfl)
      have L35 : ∀ (f : Nat) (v1 : Int32) (v2 : Int32) (v3 : Int32) (v4 : Int32) (v5 : Int32) (v6 : Int32), t_X7_soonest_35 N k22 f v1 v2 v3 v4 v5 v6 σ = some r → ∀ (H : Heap) (locs : List Loc), Wd D cy 27 shM ad A s.heap σ H locs → ∀ ls : Array Slot, lv_has ls 8 [(0, .ref (ad 0)), (1, .int v1), (2, .int v2), (3, .int v3), (4, .int v4), (5, .int v5), (6, .int v6)] → Gi p l e us_X7_soonest ({ frames := 1, cells := 0, slots := 0, locals := 25 } : Room) s m [.ref (ad 0), .int p0] below meth c D cy 27 shM ad A r σ H locs (F0 m 35 ls []) := by
        intro f
        unfold t_X7_soonest_35
        refine loopG_ind (fun (T : Int32 → Int32 → Int32 → Int32 → Int32 → Int32 → Hp → Option Int32) => ∀ (v1 : Int32) (v2 : Int32) (v3 : Int32) (v4 : Int32) (v5 : Int32) (v6 : Int32), T v1 v2 v3 v4 v5 v6 σ = some r → ∀ (H : Heap) (locs : List Loc), Wd D cy 27 shM ad A s.heap σ H locs → ∀ ls : Array Slot, lv_has ls 8 [(0, .ref (ad 0)), (1, .int v1), (2, .int v2), (3, .int v3), (4, .int v4), (5, .int v5), (6, .int v6)] → Gi p l e us_X7_soonest ({ frames := 1, cells := 0, slots := 0, locals := 25 } : Room) s m [.ref (ad 0), .int p0] below meth c D cy 27 shM ad A r σ H locs (F0 m 35 ls [])) ?_ ?_ f
        · intro v1 v2 v3 v4 v5 v6 h; exact absurd h (by simp)
        · intro k35 ih35
          have J101 : ∀ (v1 : Int32) (v2 : Int32) (v3 : Int32) (v4 : Int32) (v6 : Int32) (s0 : Int32), t_X7_soonest_101 N k22 k35 v1 v2 v3 v4 v6 s0 σ = some r → ∀ (H : Heap) (locs : List Loc), Wd D cy 27 shM ad A s.heap σ H locs → ∀ ls : Array Slot, lv_has ls 8 [(0, .ref (ad 0)), (1, .int v1), (2, .int v2), (3, .int v3), (4, .int v4), (6, .int v6)] → Gi p l e us_X7_soonest ({ frames := 1, cells := 0, slots := 0, locals := 25 } : Room) s m [.ref (ad 0), .int p0] below meth c D cy 27 shM ad A r σ H locs (F0 m 101 ls [.int s0]) := by
            intro v1 v2 v3 v4 v6 s0 h H locs hW ls hl
            unfold t_X7_soonest_101 at h
            refine lv_istore (lv' := [(5, .int s0), (0, .ref (ad 0)), (1, .int v1), (2, .int v2), (3, .int v3), (4, .int v4), (6, .int v6)]) hx hb dX7_soonest_101 hl (by decide) rfl (fun ls hln => ?_)
            replace hl := hln
            clear hln
            replace h := bx h
            obtain ⟨x2, ex2, h⟩ := h
            refine lv_iinc (v := x2) (lv' := [(6, .int x2), (5, .int s0), (0, .ref (ad 0)), (1, .int v1), (2, .int v2), (3, .int v3), (4, .int v4)]) hx hb dX7_soonest_103 hl (k := 6) rfl (by rw [ex2]; rfl) (by decide) rfl (fun ls hln => ?_)
            replace hl := hln
            clear hln ex2
            refine lv_goto (tgt := 35) hx hb dX7_soonest_106 (by decide) ?_
            exact ih35 _ _ _ _ _ _ h _ _ hW _ (lv_sub hl [2, 3, 4, 5, 6, 1, 0] rfl)
          have J85 : ∀ (v1 : Int32) (v2 : Int32) (v3 : Int32) (v4 : Int32) (v5 : Int32) (v6 : Int32) (s0 : Int32), t_X7_soonest_85 N k22 k35 v1 v2 v3 v4 v5 v6 s0 σ = some r → ∀ (H : Heap) (locs : List Loc), Wd D cy 27 shM ad A s.heap σ H locs → ∀ ls : Array Slot, lv_has ls 8 [(0, .ref (ad 0)), (1, .int v1), (2, .int v2), (3, .int v3), (4, .int v4), (5, .int v5), (6, .int v6)] → Gi p l e us_X7_soonest ({ frames := 1, cells := 0, slots := 0, locals := 25 } : Room) s m [.ref (ad 0), .int p0] below meth c D cy 27 shM ad A r σ H locs (F0 m 85 ls [.int s0]) := by
            intro v1 v2 v3 v4 v5 v6 s0 h H locs hW ls hl
            unfold t_X7_soonest_85 at h
            refine lv_istore (lv' := [(7, .int s0), (0, .ref (ad 0)), (1, .int v1), (2, .int v2), (3, .int v3), (4, .int v4), (5, .int v5), (6, .int v6)]) hx hb dX7_soonest_85 hl (by decide) rfl (fun ls hln => ?_)
            replace hl := hln
            clear hln
            refine lv_iload hx hb dX7_soonest_87 (lv_at hl 0 rfl) ?_
            refine lv_iload hx hb dX7_soonest_89 (lv_at hl 6 rfl) ?_
            refine lv_icmp_le (tgt := 99) hx hb dX7_soonest_91 (by decide) (fun cq => ?_) (fun cq => ?_)
            · replace h := tp cq h
              refine lv_iload hx hb dX7_soonest_99 (lv_at hl 6 rfl) ?_
              exact J101 _ _ _ _ _ _ h _ _ hW _ (lv_sub hl [1, 2, 3, 4, 5, 7] rfl)
            · replace h := tn cq h
              refine lv_iload hx hb dX7_soonest_94 (lv_at hl 0 rfl) ?_
              refine lv_goto (tgt := 101) hx hb dX7_soonest_96 (by decide) ?_
              exact J101 _ _ _ _ _ _ h _ _ hW _ (lv_sub hl [1, 2, 3, 4, 5, 7] rfl)
          have J84 : ∀ (v1 : Int32) (v2 : Int32) (v3 : Int32) (v4 : Int32) (v5 : Int32) (v6 : Int32), t_X7_soonest_84 N k22 k35 v1 v2 v3 v4 v5 v6 σ = some r → ∀ (H : Heap) (locs : List Loc), Wd D cy 27 shM ad A s.heap σ H locs → ∀ ls : Array Slot, lv_has ls 8 [(0, .ref (ad 0)), (1, .int v1), (2, .int v2), (3, .int v3), (4, .int v4), (5, .int v5), (6, .int v6)] → Gi p l e us_X7_soonest ({ frames := 1, cells := 0, slots := 0, locals := 25 } : Room) s m [.ref (ad 0), .int p0] below meth c D cy 27 shM ad A r σ H locs (F0 m 84 ls []) := by
            intro v1 v2 v3 v4 v5 v6 h H locs hW ls hl
            unfold t_X7_soonest_84 at h
            refine lv_iconst (v := 0) hx hb dX7_soonest_84 (by decide) ?_
            exact J85 _ _ _ _ _ _ _ h _ _ hW _ (lv_sub hl [0, 1, 2, 3, 4, 5, 6] rfl)
          intro v1 v2 v3 v4 v5 v6 h H locs hW ls hl
          refine lv_iload hx hb dX7_soonest_35 (lv_at hl 6 rfl) ?_
          refine lv_aload_n hx hb dX7_soonest_37 rfl (lv_at hl 0 rfl) ?_
          refine r_geti hC hW 0 (Nat.le_of_ble_eq_true rfl) rfl rfl rfl (by decide) inUX7 (hts _ wd_294) rfl dX7_soonest_38 ?_
          refine lv_icmp_ge (tgt := 109) hx hb dX7_soonest_41 (by decide) (fun cq => ?_) (fun cq => ?_)
          · replace h := tp cq h
            refine lv_iload_n hx hb dX7_soonest_109 rfl (lv_at hl 3 rfl) ?_
            refine lv_iload hx hb dX7_soonest_110 (lv_at hl 5 rfl) ?_
            refine lv_iadd hx hb dX7_soonest_112 ?_
            replace h := bx h
            obtain ⟨x3, ex3, h⟩ := h
            refine tope ex3 ?_
            clear ex3
            refine lv_istore_n (lv' := [(3, .int x3), (0, .ref (ad 0)), (1, .int v1), (2, .int v2), (4, .int v4), (5, .int v5), (6, .int v6)]) hx hb dX7_soonest_113 rfl hl (by decide) rfl (fun ls hln => ?_)
            replace hl := hln
            clear hln
            refine lv_iload hx hb dX7_soonest_114 (lv_at hl 5 rfl) ?_
            refine lv_iload_n hx hb dX7_soonest_116 rfl (lv_at hl 3 rfl) ?_
            refine lv_icmp_le (tgt := 125) hx hb dX7_soonest_117 (by decide) (fun cq => ?_) (fun cq => ?_)
            · replace h := tp cq h
              refine lv_iload_n hx hb dX7_soonest_125 rfl (lv_at hl 3 rfl) ?_
              exact J126 _ _ _ _ h _ _ hW _ (lv_sub hl [1, 2, 0, 4] rfl)
            · replace h := tn cq h
              refine lv_iload hx hb dX7_soonest_120 (lv_at hl 5 rfl) ?_
              refine lv_goto (tgt := 126) hx hb dX7_soonest_122 (by decide) ?_
              exact J126 _ _ _ _ h _ _ hW _ (lv_sub hl [1, 2, 0, 4] rfl)
          · replace h := tn cq h
            refine lv_aload_n hx hb dX7_soonest_44 rfl (lv_at hl 0 rfl) ?_
            refine r_getr hC hW 4 (Nat.le_of_ble_eq_true rfl) rfl rfl rfl (by decide) inUX7 (hts _ wd_318) rfl dX7_soonest_45 ?_
            refine lv_iload hx hb dX7_soonest_48 (lv_at hl 6 rfl) ?_
            replace h := og h
            obtain ⟨hi, h⟩ := h
            refine r_ald hC hW (Nat.le_of_ble_eq_true rfl) rfl hi dX7_soonest_50 ?_
            refine lv_iload hx hb dX7_soonest_51 (lv_at hl 4 rfl) ?_
            refine lv_icmp_ne (tgt := 84) hx hb dX7_soonest_53 (by decide) (fun cq => ?_) (fun cq => ?_)
            · replace h := tn cq h
              exact J84 _ _ _ _ _ _ h _ _ hW _ (lv_sub hl [0, 1, 2, 3, 4, 5, 6] rfl)
            · replace h := tp cq h
              refine lv_aload_n hx hb dX7_soonest_56 rfl (lv_at hl 0 rfl) ?_
              refine r_getr hC hW 5 (Nat.le_of_ble_eq_true rfl) rfl rfl rfl (by decide) inUX7 (hts _ wd_295) rfl dX7_soonest_57 ?_
              refine lv_iload hx hb dX7_soonest_60 (lv_at hl 6 rfl) ?_
              replace h := og h
              obtain ⟨hi, h⟩ := h
              refine r_ald hC hW (Nat.le_of_ble_eq_true rfl) rfl hi dX7_soonest_62 ?_
              refine lv_if_ne (tgt := 84) hx hb dX7_soonest_63 (by decide) (fun cq => ?_) (fun cq => ?_)
              · replace h := tn cq h
                exact J84 _ _ _ _ _ _ h _ _ hW _ (lv_sub hl [0, 1, 2, 3, 4, 5, 6] rfl)
              · replace h := tp cq h
                refine lv_aload_n hx hb dX7_soonest_66 rfl (lv_at hl 0 rfl) ?_
                refine r_getr hC hW 1 (Nat.le_of_ble_eq_true rfl) rfl rfl rfl (by decide) inUX7 (hts _ wd_325) rfl dX7_soonest_67 ?_
                refine lv_iload hx hb dX7_soonest_70 (lv_at hl 6 rfl) ?_
                replace h := og h
                obtain ⟨hi, h⟩ := h
                refine r_ald hC hW (Nat.le_of_ble_eq_true rfl) rfl hi dX7_soonest_72 ?_
                refine lv_aload_n hx hb dX7_soonest_73 rfl (lv_at hl 0 rfl) ?_
                refine r_getr hC hW 2 (Nat.le_of_ble_eq_true rfl) rfl rfl rfl (by decide) inUX7 (hts _ wd_317) rfl dX7_soonest_74 ?_
                refine lv_iload hx hb dX7_soonest_77 (lv_at hl 6 rfl) ?_
                replace h := og h
                obtain ⟨hi, h⟩ := h
                refine r_ald hC hW (Nat.le_of_ble_eq_true rfl) rfl hi dX7_soonest_79 ?_
                refine lv_isub hx hb dX7_soonest_80 ?_
                refine lv_goto (tgt := 85) hx hb dX7_soonest_81 (by decide) ?_
                exact J85 _ _ _ _ _ _ _ h _ _ hW _ (lv_sub hl [0, 1, 2, 3, 4, 5, 6] rfl)
      intro v1 v2 v3 v4 h H locs hW ls hl
      refine lv_iload hx hb dX7_soonest_22 (lv_at hl 4 rfl) ?_
      refine lv_bipush (v := 6) hx hb dX7_soonest_24 (by decide) ?_
      refine lv_icmp_ge (tgt := 133) hx hb dX7_soonest_26 (by decide) (fun cq => ?_) (fun cq => ?_)
      · replace h := tp cq h
        refine lv_iload_n hx hb dX7_soonest_133 rfl (lv_at hl 3 rfl) ?_
        refine lv_iload_n hx hb dX7_soonest_134 rfl (lv_at hl 1 rfl) ?_
        refine lv_iadd hx hb dX7_soonest_135 ?_
        refine lv_iconst (v := 1) hx hb dX7_soonest_136 (by decide) ?_
        refine lv_isub hx hb dX7_soonest_137 ?_
        refine lv_iload_n hx hb dX7_soonest_138 rfl (lv_at hl 1 rfl) ?_
        replace h := od h
        obtain ⟨hnz, h⟩ := h
        refine lv_idiv hx hb dX7_soonest_139 hnz ?_
        replace h := bx h
        obtain ⟨x4, ex4, h⟩ := h
        refine tope ex4 ?_
        clear ex4
        refine lv_istore (lv' := [(4, .int x4), (0, .ref (ad 0)), (1, .int v1), (2, .int v2), (3, .int v3)]) hx hb dX7_soonest_140 hl (by decide) rfl (fun ls hln => ?_)
        replace hl := hln
        clear hln
        refine lv_iload hx hb dX7_soonest_142 (lv_at hl 0 rfl) ?_
        refine lv_iload_n hx hb dX7_soonest_144 rfl (lv_at hl 3 rfl) ?_
        refine lv_icmp_le (tgt := 153) hx hb dX7_soonest_145 (by decide) (fun cq => ?_) (fun cq => ?_)
        · replace h := tp cq h
          refine lv_iload_n hx hb dX7_soonest_153 rfl (lv_at hl 3 rfl) ?_
          exact r_iretP hC hr hlocks h hW dX7_soonest_154
        · replace h := tn cq h
          refine lv_iload hx hb dX7_soonest_148 (lv_at hl 0 rfl) ?_
          refine lv_goto (tgt := 154) hx hb dX7_soonest_150 (by decide) ?_
          exact r_iretP hC hr hlocks h hW dX7_soonest_154
      · replace h := tn cq h
        refine lv_iconst (v := 0) hx hb dX7_soonest_29 (by decide) ?_
        refine lv_istore (lv' := [(5, .int 0), (0, .ref (ad 0)), (1, .int v1), (2, .int v2), (3, .int v3), (4, .int v4)]) hx hb dX7_soonest_30 hl (by decide) rfl (fun ls hln => ?_)
        replace hl := hln
        clear hln
        refine lv_iconst (v := 0) hx hb dX7_soonest_32 (by decide) ?_
        refine lv_istore (lv' := [(6, .int 0), (5, .int 0), (0, .ref (ad 0)), (1, .int v1), (2, .int v2), (3, .int v3), (4, .int v4)]) hx hb dX7_soonest_33 hl (by decide) rfl (fun ls hln => ?_)
        replace hl := hln
        clear hln
        exact L35 _ _ _ _ _ _ _ h _ _ hW _ (lv_sub hl [2, 3, 4, 5, 6, 1, 0] rfl)
  refine lv_iload_n hx hb dX7_soonest_0 rfl (lv_at hl 1 rfl) ?_
  refine lv_i2l hx hb dX7_soonest_1 rfl ?_
  refine lv_lconst (v := 1) hx hb dX7_soonest_2 (by decide) ?_
  refine lv_ldc2 hx hb hown (hts _ wd_482) dX7_soonest_3 ?_
  replace h := bd h
  obtain ⟨r5, hc, h⟩ := h
  refine r_calli hW (va_runS (As := [.long (p0.toInt64), .long 1, .long (6)]) (rest := []) hC.1 (c_X7_in l D cy ad A _ _ _ _ _ hc) (va_cwS 3 hts (gdS wd_298 wd_299 wd_300 wd_297) rfl rfl rfl (by decide +kernel) ⟨Nat.le_of_ble_eq_true rfl, Nat.le_of_ble_eq_true rfl⟩) (r_preS hC hW) rfl rfl hl.1 rfl (lv_room (Nat.le_of_ble_eq_true rfl)) dX7_soonest_6 ⟨Nat.zero_le _, Nat.zero_le _⟩) (fun H locs hWn => ?_)
  replace hW := hWn
  clear hWn hc
  refine lv_if_ne (tgt := 15) hx hb dX7_soonest_9 (by decide) (fun cq => ?_) (fun cq => ?_)
  · replace h := tn cq h
    refine lv_iconst (v := 0) hx hb dX7_soonest_15 (by decide) ?_
    refine lv_istore_n (lv' := [(2, .int 0), (0, .ref (ad 0)), (1, .int p0)]) hx hb dX7_soonest_16 rfl hl (by decide) rfl (fun ls hln => ?_)
    replace hl := hln
    clear hln
    refine lv_iconst (v := 0) hx hb dX7_soonest_17 (by decide) ?_
    refine lv_istore_n (lv' := [(3, .int 0), (2, .int 0), (0, .ref (ad 0)), (1, .int p0)]) hx hb dX7_soonest_18 rfl hl (by decide) rfl (fun ls hln => ?_)
    replace hl := hln
    clear hln
    refine lv_iconst (v := 0) hx hb dX7_soonest_19 (by decide) ?_
    refine lv_istore (lv' := [(4, .int 0), (3, .int 0), (2, .int 0), (0, .ref (ad 0)), (1, .int p0)]) hx hb dX7_soonest_20 hl (by decide) rfl (fun ls hln => ?_)
    replace hl := hln
    clear hln
    exact L22 _ _ _ _ _ h _ _ hW _ (lv_sub hl [3, 4, 2, 1, 0] rfl)
  · replace h := tp cq h
    refine lv_bipush (v := (-2)) hx hb dX7_soonest_12 (by decide) ?_
    exact r_iretP hC hr hlocks h hW dX7_soonest_14
set_option maxHeartbeats 4000000 in
set_option maxRecDepth 100000 in
theorem c_X7_state (l : Launch) (D : va_G) (cy : ClassId × ClassId) (ad : Nat → Nat) (A : Nat → Prop) (p0 : Int32) (p1 : Int32) (σ : Hp) (r : Int32) (h : t_X7_state p0 p1 σ = some r) : Ci l yX7_state us_X7_state ({ frames := 2, cells := 0, slots := 0, locals := 46 } : Room) D cy 27 shM ad A [.ref (ad 0), .int p0, .int p1] σ r σ := by
  unfold t_X7_state at h
  refine Met.ofW (cc := cX7_state) (maxL := 3) (ret := (some .int)) (by decide) rfl ?_
  intro p e s m args below meth c s₁ B hml hv
  obtain ⟨rfl, hP, hK, hD, hA, hN⟩ := hv
  have hx := B.exec
  have hb := B.bytes
  have hr := B.returns
  have hlocks := B.notSynchronized
  have hts : ∀ w ∈ wsU, w.before _ s = true := fun w h => atoms_spec (ws := us_X7_state) B.pre w (List.mem_cons_of_mem _ h)
  have hown : s.vm.findClass RX7 = some m.cls := findClass_of_methodNamed B.named
  have hC : Cx p m c cX7_state 3 s _ wsU RX7 D cy := ⟨⟨hx, hb, hml, hown, hts⟩, hK, hN⟩
  have hW : Wd D cy 27 shM ad A s.heap σ s.heap [] := ⟨hP, hD, va_S.rf, hA⟩
  have hl := lv_entry ([.ref (ad 0), .int p0, .int p1]) (n := 3) (Nat.le_of_ble_eq_true rfl)
  rw [lg_entry_eq]
  generalize (lg_sl ([.ref (ad 0), .int p0, .int p1]) ++ List.replicate (3 - (lg_sl ([.ref (ad 0), .int p0, .int p1])).length) Slot.unset).toArray = ls at hl ⊢
  have hl : lv_has ls 3 [(0, .ref (ad 0)), (1, .int p0), (2, .int p1)] := hl
  refine lv_aload_n hx hb dX7_state_0 rfl (lv_at hl 0 rfl) ?_
  refine lv_iload_n hx hb dX7_state_1 rfl (lv_at hl 1 rfl) ?_
  replace h := bd h
  obtain ⟨r1, hc, h⟩ := h
  refine r_calli hW (va_runV (As := [.int p0]) (rest := []) hC.1 (c_X7_isEgg l D cy ad A _ _ _ hc) (cwV 1 hts (gdV wd_307 wd_308 wd_309 wd_300 wd_306) rfl rfl rfl (by decide +kernel) ⟨Nat.le_of_ble_eq_true rfl, Nat.le_of_ble_eq_true rfl⟩) (r_preV hC hW (Nat.le_of_ble_eq_true rfl) rfl rfl) rfl rfl hl.1 rfl (lv_room (Nat.le_of_ble_eq_true rfl)) dX7_state_2 ⟨Nat.zero_le _, Nat.zero_le _⟩) (fun H locs hWn => ?_)
  replace hW := hWn
  clear hWn hc
  refine lv_if_ne (tgt := 10) hx hb dX7_state_5 (by decide) (fun cq => ?_) (fun cq => ?_)
  · replace h := tn cq h
    refine lv_iload_n hx hb dX7_state_10 rfl (lv_at hl 2 rfl) ?_
    refine lv_i2l hx hb dX7_state_11 rfl ?_
    refine lv_lconst (v := 0) hx hb dX7_state_12 (by decide) ?_
    refine lv_ldc2 hx hb hown (hts _ wd_415) dX7_state_13 ?_
    replace h := bd h
    obtain ⟨r2, hc, h⟩ := h
    refine r_calli hW (va_runS (As := [.long (p1.toInt64), .long 0, .long (2)]) (rest := []) hC.1 (c_X7_in l D cy ad A _ _ _ _ _ hc) (va_cwS 3 hts (gdS wd_298 wd_299 wd_300 wd_297) rfl rfl rfl (by decide +kernel) ⟨Nat.le_of_ble_eq_true rfl, Nat.le_of_ble_eq_true rfl⟩) (r_preS hC hW) rfl rfl hl.1 rfl (lv_room (Nat.le_of_ble_eq_true rfl)) dX7_state_16 ⟨Nat.zero_le _, Nat.zero_le _⟩) (fun H locs hWn => ?_)
    replace hW := hWn
    clear hWn hc
    refine lv_if_eq (tgt := 31) hx hb dX7_state_19 (by decide) (fun cq => ?_) (fun cq => ?_)
    · replace h := tp cq h
      refine lv_bipush (v := (-2)) hx hb dX7_state_31 (by decide) ?_
      exact r_iretP hC hr hlocks h hW dX7_state_33
    · replace h := tn cq h
      refine lv_aload_n hx hb dX7_state_22 rfl (lv_at hl 0 rfl) ?_
      refine lv_iload_n hx hb dX7_state_23 rfl (lv_at hl 1 rfl) ?_
      refine lv_iload_n hx hb dX7_state_24 rfl (lv_at hl 2 rfl) ?_
      replace h := bd h
      obtain ⟨r3, hc, h⟩ := h
      refine r_calli hW (va_runV (As := [.int p0, .int p1]) (rest := []) hC.1 (c_X7_stateOf l D cy ad A _ _ _ _ hc) (cwV 2 hts (gdV wd_408 wd_409 wd_410 wd_300 wd_407) rfl rfl rfl (by decide +kernel) ⟨Nat.le_of_ble_eq_true rfl, Nat.le_of_ble_eq_true rfl⟩) (r_preV hC hW (Nat.le_of_ble_eq_true rfl) rfl rfl) rfl rfl hl.1 rfl (lv_room (Nat.le_of_ble_eq_true rfl)) dX7_state_25 ⟨Nat.zero_le _, Nat.zero_le _⟩) (fun H locs hWn => ?_)
      replace hW := hWn
      clear hWn hc
      refine lv_goto (tgt := 33) hx hb dX7_state_28 (by decide) ?_
      exact r_iretP hC hr hlocks h hW dX7_state_33
  · replace h := tp cq h
    refine lv_iconst (v := (-1)) hx hb dX7_state_8 (by decide) ?_
    exact r_iretP hC hr hlocks h hW dX7_state_9
set_option maxHeartbeats 4000000 in
set_option maxRecDepth 100000 in
theorem c_X7_stops (l : Launch) (D : va_G) (cy : ClassId × ClassId) (ad : Nat → Nat) (A : Nat → Prop) (N : Nat) (p0 : Int32) (σ : Hp) (r : Int32) (σ' : Hp) (h : t_X7_stops N p0 σ = some (r, σ')) : Ci l yX7_stops us_X7_stops ({ frames := 4, cells := 0, slots := 0, locals := 93 } : Room) D cy 27 shM ad A [.ref (ad 0), .int p0] σ r σ' := by
  unfold t_X7_stops at h
  refine Met.ofW (cc := cX7_stops) (maxL := 3) (ret := (some .int)) (by decide) rfl ?_
  intro p e s m args below meth c s₁ B hml hv
  obtain ⟨rfl, hP, hK, hD, hA, hN⟩ := hv
  have hx := B.exec
  have hb := B.bytes
  have hr := B.returns
  have hlocks := B.notSynchronized
  have hts : ∀ w ∈ wsU, w.before _ s = true := fun w h => atoms_spec (ws := us_X7_stops) B.pre w (List.mem_cons_of_mem _ h)
  have hown : s.vm.findClass RX7 = some m.cls := findClass_of_methodNamed B.named
  have hC : Cx p m c cX7_stops 3 s _ wsU RX7 D cy := ⟨⟨hx, hb, hml, hown, hts⟩, hK, hN⟩
  have hW : Wd D cy 27 shM ad A s.heap σ s.heap [] := ⟨hP, hD, va_S.rf, hA⟩
  have hl := lv_entry ([.ref (ad 0), .int p0]) (n := 3) (Nat.le_of_ble_eq_true rfl)
  rw [lg_entry_eq]
  generalize (lg_sl ([.ref (ad 0), .int p0]) ++ List.replicate (3 - (lg_sl ([.ref (ad 0), .int p0])).length) Slot.unset).toArray = ls at hl ⊢
  have hl : lv_has ls 3 [(0, .ref (ad 0)), (1, .int p0)] := hl
  refine lv_iload_n hx hb dX7_stops_0 rfl (lv_at hl 1 rfl) ?_
  refine lv_i2l hx hb dX7_stops_1 rfl ?_
  refine lv_lconst (v := 0) hx hb dX7_stops_2 (by decide) ?_
  refine lv_lconst (v := 1) hx hb dX7_stops_3 (by decide) ?_
  replace h := bd h
  obtain ⟨r1, hc, h⟩ := h
  refine r_calli hW (va_runS (As := [.long (p0.toInt64), .long 0, .long 1]) (rest := []) hC.1 (c_X7_in l D cy ad A _ _ _ _ _ hc) (va_cwS 3 hts (gdS wd_298 wd_299 wd_300 wd_297) rfl rfl rfl (by decide +kernel) ⟨Nat.le_of_ble_eq_true rfl, Nat.le_of_ble_eq_true rfl⟩) (r_preS hC hW) rfl rfl hl.1 rfl (lv_room (Nat.le_of_ble_eq_true rfl)) dX7_stops_4 ⟨Nat.zero_le _, Nat.zero_le _⟩) (fun H locs hWn => ?_)
  replace hW := hWn
  clear hWn hc
  refine lv_if_ne (tgt := 13) hx hb dX7_stops_7 (by decide) (fun cq => ?_) (fun cq => ?_)
  · replace h := tn cq h
    refine lv_aload_n hx hb dX7_stops_13 rfl (lv_at hl 0 rfl) ?_
    replace h := ob h
    obtain ⟨r2, σ3, hc, h⟩ := h
    refine r_calli hW (va_runV (As := []) (rest := []) hC.1 (c_X7_refusal l D cy ad A N _ _ _ hc) (cwV 0 hts (gdV wd_417 wd_418 wd_419 wd_300 wd_416) rfl rfl rfl (by decide +kernel) ⟨Nat.le_of_ble_eq_true rfl, Nat.le_of_ble_eq_true rfl⟩) (r_preV hC hW (Nat.le_of_ble_eq_true rfl) rfl rfl) rfl rfl hl.1 rfl (lv_room (Nat.le_of_ble_eq_true rfl)) dX7_stops_14 ⟨Nat.zero_le _, Nat.zero_le _⟩) (fun H locs hWn => ?_)
    replace hW := hWn
    clear hWn hc
    refine lv_istore_n (lv' := [(2, .int r2), (0, .ref (ad 0)), (1, .int p0)]) hx hb dX7_stops_17 rfl hl (by decide) rfl (fun ls hln => ?_)
    replace hl := hln
    clear hln
    refine lv_iload_n hx hb dX7_stops_18 rfl (lv_at hl 0 rfl) ?_
    refine lv_bipush (v := (-6)) hx hb dX7_stops_19 (by decide) ?_
    refine lv_icmp_eq (tgt := 28) hx hb dX7_stops_21 (by decide) (fun cq => ?_) (fun cq => ?_)
    · replace h := tp cq h
      refine lv_iload_n hx hb dX7_stops_28 rfl (lv_at hl 2 rfl) ?_
      refine lv_if_ne (tgt := 39) hx hb dX7_stops_29 (by decide) (fun cq => ?_) (fun cq => ?_)
      · replace h := tn cq h
        refine lv_aload_n hx hb dX7_stops_39 rfl (lv_at hl 1 rfl) ?_
        refine r_geti hC hW 31 (Nat.le_of_ble_eq_true rfl) rfl rfl rfl (by decide) inUX7 (hts _ wd_401) rfl dX7_stops_40 ?_
        exact r_iretW hC hr hlocks h hW dX7_stops_43
      · replace h := tp cq h
        refine lv_aload_n hx hb dX7_stops_32 rfl (lv_at hl 1 rfl) ?_
        refine r_geti hC hW 30 (Nat.le_of_ble_eq_true rfl) rfl rfl rfl (by decide) inUX7 (hts _ wd_400) rfl dX7_stops_33 ?_
        refine lv_goto (tgt := 43) hx hb dX7_stops_36 (by decide) ?_
        exact r_iretW hC hr hlocks h hW dX7_stops_43
    · replace h := tn cq h
      refine lv_iload_n hx hb dX7_stops_24 rfl (lv_at hl 0 rfl) ?_
      refine lv_goto (tgt := 43) hx hb dX7_stops_25 (by decide) ?_
      exact r_iretW hC hr hlocks h hW dX7_stops_43
  · replace h := tp cq h
    refine lv_bipush (v := (-2)) hx hb dX7_stops_10 (by decide) ?_
    exact r_iretW hC hr hlocks h hW dX7_stops_12
set_option maxHeartbeats 4000000 in
set_option maxRecDepth 100000 in
theorem c_X7_stove (l : Launch) (D : va_G) (cy : ClassId × ClassId) (ad : Nat → Nat) (A : Nat → Prop) (p0 : Int32) (p1 : Int32) (σ : Hp) (r : Int32) (σ' : Hp) (h : t_X7_stove p0 p1 σ = some (r, σ')) : Ci l yX7_stove us_X7_stove ({ frames := 2, cells := 0, slots := 0, locals := 45 } : Room) D cy 27 shM ad A [.ref (ad 0), .int p0, .int p1] σ r σ' := by
  unfold t_X7_stove at h
  refine Met.ofW (cc := cX7_stove) (maxL := 3) (ret := (some .int)) (by decide) rfl ?_
  intro p e s m args below meth c s₁ B hml hv
  obtain ⟨rfl, hP, hK, hD, hA, hN⟩ := hv
  have hx := B.exec
  have hb := B.bytes
  have hr := B.returns
  have hlocks := B.notSynchronized
  have hts : ∀ w ∈ wsU, w.before _ s = true := fun w h => atoms_spec (ws := us_X7_stove) B.pre w (List.mem_cons_of_mem _ h)
  have hown : s.vm.findClass RX7 = some m.cls := findClass_of_methodNamed B.named
  have hC : Cx p m c cX7_stove 3 s _ wsU RX7 D cy := ⟨⟨hx, hb, hml, hown, hts⟩, hK, hN⟩
  have hW : Wd D cy 27 shM ad A s.heap σ s.heap [] := ⟨hP, hD, va_S.rf, hA⟩
  have hl := lv_entry ([.ref (ad 0), .int p0, .int p1]) (n := 3) (Nat.le_of_ble_eq_true rfl)
  rw [lg_entry_eq]
  generalize (lg_sl ([.ref (ad 0), .int p0, .int p1]) ++ List.replicate (3 - (lg_sl ([.ref (ad 0), .int p0, .int p1])).length) Slot.unset).toArray = ls at hl ⊢
  have hl : lv_has ls 3 [(0, .ref (ad 0)), (1, .int p0), (2, .int p1)] := hl
  have J35 : ∀ (s1 : Int32) (σ : Hp), t_X7_stove_35 s1 σ = some (r, σ') → ∀ (H : Heap) (locs : List Loc), Wd D cy 27 shM ad A s.heap σ H locs → ∀ ls : Array Slot, lv_has ls 3 [(0, .ref (ad 0))] → Gi p l e us_X7_stove ({ frames := 2, cells := 0, slots := 0, locals := 45 } : Room) s m [.ref (ad 0), .int p0, .int p1] below meth c D cy 27 shM ad A r σ' H locs (F0 m 35 ls [.int s1, .ref (ad 0)]) := by
    intro s1 σ h H locs hW ls hl
    unfold t_X7_stove_35 at h
    refine r_put hC hW 7 (Nat.le_of_ble_eq_true rfl) rfl rfl rfl (by decide) inUX7 tyX7 tyX7_ok nmX7 (hts _ wd_316) rfl rfl ⟨rfl, rfl⟩ dX7_stove_35 (fun σ1 eσ1 H locs hWn => ?_)
    replace h := bn eσ1 h
    replace hW := hWn
    clear hWn eσ1
    refine lv_aload_n hx hb dX7_stove_38 rfl (lv_at hl 0 rfl) ?_
    refine r_geti hC hW 7 (Nat.le_of_ble_eq_true rfl) rfl rfl rfl (by decide) inUX7 (hts _ wd_316) rfl dX7_stove_39 ?_
    exact r_iretW hC hr hlocks h hW dX7_stove_42
  refine lv_iload_n hx hb dX7_stove_0 rfl (lv_at hl 1 rfl) ?_
  replace h := bd h
  obtain ⟨r2, hc, h⟩ := h
  refine r_calli hW (va_runS (As := [.int p0]) (rest := []) hC.1 (c_X7_isHouse l D cy ad A _ _ _ hc) (va_cwS 1 hts (gdS wd_313 wd_314 wd_300 wd_312) rfl rfl rfl (by decide +kernel) ⟨Nat.le_of_ble_eq_true rfl, Nat.le_of_ble_eq_true rfl⟩) (r_preS hC hW) rfl rfl hl.1 rfl (lv_room (Nat.le_of_ble_eq_true rfl)) dX7_stove_1 ⟨Nat.zero_le _, Nat.zero_le _⟩) (fun H locs hWn => ?_)
  replace hW := hWn
  clear hWn hc
  refine lv_if_ne (tgt := 9) hx hb dX7_stove_4 (by decide) (fun cq => ?_) (fun cq => ?_)
  · replace h := tn cq h
    refine lv_aload_n hx hb dX7_stove_9 rfl (lv_at hl 0 rfl) ?_
    refine lv_iload_n hx hb dX7_stove_10 rfl (lv_at hl 2 rfl) ?_
    refine lv_if_eq (tgt := 25) hx hb dX7_stove_11 (by decide) (fun cq => ?_) (fun cq => ?_)
    · replace h := tp cq h
      refine lv_aload_n hx hb dX7_stove_25 rfl (lv_at hl 0 rfl) ?_
      refine r_geti hC hW 7 (Nat.le_of_ble_eq_true rfl) rfl rfl rfl (by decide) inUX7 (hts _ wd_316) rfl dX7_stove_26 ?_
      refine lv_iconst (v := 1) hx hb dX7_stove_29 (by decide) ?_
      refine lv_iload_n hx hb dX7_stove_30 rfl (lv_at hl 1 rfl) ?_
      refine lv_ishl hx hb dX7_stove_31 ?_
      refine lv_iconst (v := (-1)) hx hb dX7_stove_32 (by decide) ?_
      refine lv_ixor hx hb dX7_stove_33 ?_
      refine lv_iand hx hb dX7_stove_34 ?_
      exact J35 _ _ h _ _ hW _ (lv_sub hl [0] rfl)
    · replace h := tn cq h
      refine lv_aload_n hx hb dX7_stove_14 rfl (lv_at hl 0 rfl) ?_
      refine r_geti hC hW 7 (Nat.le_of_ble_eq_true rfl) rfl rfl rfl (by decide) inUX7 (hts _ wd_316) rfl dX7_stove_15 ?_
      refine lv_iconst (v := 1) hx hb dX7_stove_18 (by decide) ?_
      refine lv_iload_n hx hb dX7_stove_19 rfl (lv_at hl 1 rfl) ?_
      refine lv_ishl hx hb dX7_stove_20 ?_
      refine lv_ior hx hb dX7_stove_21 ?_
      refine lv_goto (tgt := 35) hx hb dX7_stove_22 (by decide) ?_
      exact J35 _ _ h _ _ hW _ (lv_sub hl [0] rfl)
  · replace h := tp cq h
    refine lv_iconst (v := (-1)) hx hb dX7_stove_7 (by decide) ?_
    exact r_iretW hC hr hlocks h hW dX7_stove_8
set_option maxHeartbeats 4000000 in
set_option maxRecDepth 100000 in
theorem c_X7_toldOfEgg (l : Launch) (D : va_G) (cy : ClassId × ClassId) (ad : Nat → Nat) (A : Nat → Prop) (p0 : Int32) (p1 : Int32) (σ : Hp) (r : Int32) (h : t_X7_toldOfEgg p0 p1 σ = some r) : Ci l yX7_toldOfEgg us_X7_toldOfEgg ({ frames := 2, cells := 0, slots := 0, locals := 46 } : Room) D cy 27 shM ad A [.ref (ad 0), .int p0, .int p1] σ r σ := by
  unfold t_X7_toldOfEgg at h
  refine Met.ofW (cc := cX7_toldOfEgg) (maxL := 3) (ret := (some .int)) (by decide) rfl ?_
  intro p e s m args below meth c s₁ B hml hv
  obtain ⟨rfl, hP, hK, hD, hA, hN⟩ := hv
  have hx := B.exec
  have hb := B.bytes
  have hr := B.returns
  have hlocks := B.notSynchronized
  have hts : ∀ w ∈ wsU, w.before _ s = true := fun w h => atoms_spec (ws := us_X7_toldOfEgg) B.pre w (List.mem_cons_of_mem _ h)
  have hown : s.vm.findClass RX7 = some m.cls := findClass_of_methodNamed B.named
  have hC : Cx p m c cX7_toldOfEgg 3 s _ wsU RX7 D cy := ⟨⟨hx, hb, hml, hown, hts⟩, hK, hN⟩
  have hW : Wd D cy 27 shM ad A s.heap σ s.heap [] := ⟨hP, hD, va_S.rf, hA⟩
  have hl := lv_entry ([.ref (ad 0), .int p0, .int p1]) (n := 3) (Nat.le_of_ble_eq_true rfl)
  rw [lg_entry_eq]
  generalize (lg_sl ([.ref (ad 0), .int p0, .int p1]) ++ List.replicate (3 - (lg_sl ([.ref (ad 0), .int p0, .int p1])).length) Slot.unset).toArray = ls at hl ⊢
  have hl : lv_has ls 3 [(0, .ref (ad 0)), (1, .int p0), (2, .int p1)] := hl
  refine lv_aload_n hx hb dX7_toldOfEgg_0 rfl (lv_at hl 0 rfl) ?_
  refine lv_iload_n hx hb dX7_toldOfEgg_1 rfl (lv_at hl 1 rfl) ?_
  replace h := bd h
  obtain ⟨r1, hc, h⟩ := h
  refine r_calli hW (va_runV (As := [.int p0]) (rest := []) hC.1 (c_X7_isEgg l D cy ad A _ _ _ hc) (cwV 1 hts (gdV wd_307 wd_308 wd_309 wd_300 wd_306) rfl rfl rfl (by decide +kernel) ⟨Nat.le_of_ble_eq_true rfl, Nat.le_of_ble_eq_true rfl⟩) (r_preV hC hW (Nat.le_of_ble_eq_true rfl) rfl rfl) rfl rfl hl.1 rfl (lv_room (Nat.le_of_ble_eq_true rfl)) dX7_toldOfEgg_2 ⟨Nat.zero_le _, Nat.zero_le _⟩) (fun H locs hWn => ?_)
  replace hW := hWn
  clear hWn hc
  refine lv_if_ne (tgt := 11) hx hb dX7_toldOfEgg_5 (by decide) (fun cq => ?_) (fun cq => ?_)
  · replace h := tn cq h
    refine lv_iload_n hx hb dX7_toldOfEgg_11 rfl (lv_at hl 2 rfl) ?_
    by_cases cq0 : p1 = 0
    · replace h := tp cq0 h
      refine lv_tableIn (off := 36) (tgt := 48) hx hb dX7_toldOfEgg_12 (by rw [cq0]; decide) (by rw [cq0]; decide) (by rw [cq0]; rfl) (by decide) ?_
      refine lv_aload_n hx hb dX7_toldOfEgg_48 rfl (lv_at hl 0 rfl) ?_
      refine r_getr hC hW 1 (Nat.le_of_ble_eq_true rfl) rfl rfl rfl (by decide) inUX7 (hts _ wd_325) rfl dX7_toldOfEgg_49 ?_
      refine lv_iload_n hx hb dX7_toldOfEgg_52 rfl (lv_at hl 1 rfl) ?_
      replace h := og h
      obtain ⟨hi, h⟩ := h
      refine r_ald hC hW (Nat.le_of_ble_eq_true rfl) rfl hi dX7_toldOfEgg_53 ?_
      exact r_iretP hC hr hlocks h hW dX7_toldOfEgg_54
    replace h := tn cq0 h
    by_cases cq1 : p1 = 1
    · replace h := tp cq1 h
      refine lv_tableIn (off := 43) (tgt := 55) hx hb dX7_toldOfEgg_12 (by rw [cq1]; decide) (by rw [cq1]; decide) (by rw [cq1]; rfl) (by decide) ?_
      refine lv_aload_n hx hb dX7_toldOfEgg_55 rfl (lv_at hl 0 rfl) ?_
      refine r_getr hC hW 2 (Nat.le_of_ble_eq_true rfl) rfl rfl rfl (by decide) inUX7 (hts _ wd_317) rfl dX7_toldOfEgg_56 ?_
      refine lv_iload_n hx hb dX7_toldOfEgg_59 rfl (lv_at hl 1 rfl) ?_
      replace h := og h
      obtain ⟨hi, h⟩ := h
      refine r_ald hC hW (Nat.le_of_ble_eq_true rfl) rfl hi dX7_toldOfEgg_60 ?_
      exact r_iretP hC hr hlocks h hW dX7_toldOfEgg_61
    replace h := tn cq1 h
    by_cases cq2 : p1 = 2
    · replace h := tp cq2 h
      refine lv_tableIn (off := 50) (tgt := 62) hx hb dX7_toldOfEgg_12 (by rw [cq2]; decide) (by rw [cq2]; decide) (by rw [cq2]; rfl) (by decide) ?_
      refine lv_aload_n hx hb dX7_toldOfEgg_62 rfl (lv_at hl 0 rfl) ?_
      refine r_getr hC hW 3 (Nat.le_of_ble_eq_true rfl) rfl rfl rfl (by decide) inUX7 (hts _ wd_398) rfl dX7_toldOfEgg_63 ?_
      refine lv_iload_n hx hb dX7_toldOfEgg_66 rfl (lv_at hl 1 rfl) ?_
      replace h := og h
      obtain ⟨hi, h⟩ := h
      refine r_ald hC hW (Nat.le_of_ble_eq_true rfl) rfl hi dX7_toldOfEgg_67 ?_
      exact r_iretP hC hr hlocks h hW dX7_toldOfEgg_68
    replace h := tn cq2 h
    by_cases cq3 : p1 = 3
    · replace h := tp cq3 h
      refine lv_tableIn (off := 57) (tgt := 69) hx hb dX7_toldOfEgg_12 (by rw [cq3]; decide) (by rw [cq3]; decide) (by rw [cq3]; rfl) (by decide) ?_
      refine lv_aload_n hx hb dX7_toldOfEgg_69 rfl (lv_at hl 0 rfl) ?_
      refine r_getr hC hW 4 (Nat.le_of_ble_eq_true rfl) rfl rfl rfl (by decide) inUX7 (hts _ wd_318) rfl dX7_toldOfEgg_70 ?_
      refine lv_iload_n hx hb dX7_toldOfEgg_73 rfl (lv_at hl 1 rfl) ?_
      replace h := og h
      obtain ⟨hi, h⟩ := h
      refine r_ald hC hW (Nat.le_of_ble_eq_true rfl) rfl hi dX7_toldOfEgg_74 ?_
      exact r_iretP hC hr hlocks h hW dX7_toldOfEgg_75
    replace h := tn cq3 h
    by_cases cq4 : p1 = 4
    · replace h := tp cq4 h
      refine lv_tableIn (off := 64) (tgt := 76) hx hb dX7_toldOfEgg_12 (by rw [cq4]; decide) (by rw [cq4]; decide) (by rw [cq4]; rfl) (by decide) ?_
      refine lv_aload_n hx hb dX7_toldOfEgg_76 rfl (lv_at hl 0 rfl) ?_
      refine r_getr hC hW 5 (Nat.le_of_ble_eq_true rfl) rfl rfl rfl (by decide) inUX7 (hts _ wd_295) rfl dX7_toldOfEgg_77 ?_
      refine lv_iload_n hx hb dX7_toldOfEgg_80 rfl (lv_at hl 1 rfl) ?_
      replace h := og h
      obtain ⟨hi, h⟩ := h
      refine r_ald hC hW (Nat.le_of_ble_eq_true rfl) rfl hi dX7_toldOfEgg_81 ?_
      exact r_iretP hC hr hlocks h hW dX7_toldOfEgg_82
    replace h := tn cq4 h
    refine lv_tableOut (tgt := 83) hx hb dX7_toldOfEgg_12 (by have z0 := ti_ne cq0; have z1 := ti_ne cq1; have z2 := ti_ne cq2; have z3 := ti_ne cq3; have z4 := ti_ne cq4; simp only [ti_0, ti_1, ti_2, ti_3, ti_4] at z0 z1 z2 z3 z4; omega) (by decide) ?_
    refine lv_bipush (v := (-2)) hx hb dX7_toldOfEgg_83 (by decide) ?_
    exact r_iretP hC hr hlocks h hW dX7_toldOfEgg_85
  · replace h := tp cq h
    refine lv_bipush (v := (-2)) hx hb dX7_toldOfEgg_8 (by decide) ?_
    exact r_iretP hC hr hlocks h hW dX7_toldOfEgg_10
set_option maxHeartbeats 4000000 in
set_option maxRecDepth 100000 in
theorem c_X7_told (l : Launch) (D : va_G) (cy : ClassId × ClassId) (ad : Nat → Nat) (A : Nat → Prop) (p0 : Int32) (σ : Hp) (r : Int32) (h : t_X7_told p0 σ = some r) : Ci l yX7_told us_X7_told ({ frames := 3, cells := 0, slots := 0, locals := 68 } : Room) D cy 27 shM ad A [.ref (ad 0), .int p0] σ r σ := by
  unfold t_X7_told at h
  refine Met.ofW (cc := cX7_told) (maxL := 2) (ret := (some .int)) (by decide) rfl ?_
  intro p e s m args below meth c s₁ B hml hv
  obtain ⟨rfl, hP, hK, hD, hA, hN⟩ := hv
  have hx := B.exec
  have hb := B.bytes
  have hr := B.returns
  have hlocks := B.notSynchronized
  have hts : ∀ w ∈ wsU, w.before _ s = true := fun w h => atoms_spec (ws := us_X7_told) B.pre w (List.mem_cons_of_mem _ h)
  have hown : s.vm.findClass RX7 = some m.cls := findClass_of_methodNamed B.named
  have hC : Cx p m c cX7_told 2 s _ wsU RX7 D cy := ⟨⟨hx, hb, hml, hown, hts⟩, hK, hN⟩
  have hW : Wd D cy 27 shM ad A s.heap σ s.heap [] := ⟨hP, hD, va_S.rf, hA⟩
  have hl := lv_entry ([.ref (ad 0), .int p0]) (n := 2) (Nat.le_of_ble_eq_true rfl)
  rw [lg_entry_eq]
  generalize (lg_sl ([.ref (ad 0), .int p0]) ++ List.replicate (2 - (lg_sl ([.ref (ad 0), .int p0])).length) Slot.unset).toArray = ls at hl ⊢
  have hl : lv_has ls 2 [(0, .ref (ad 0)), (1, .int p0)] := hl
  refine lv_iload_n hx hb dX7_told_0 rfl (lv_at hl 1 rfl) ?_
  refine lv_i2l hx hb dX7_told_1 rfl ?_
  refine lv_ldc2 hx hb hown (hts _ wd_483) dX7_told_2 ?_
  refine lv_ldc2 hx hb hown (hts _ wd_484) dX7_told_5 ?_
  replace h := bd h
  obtain ⟨r1, hc, h⟩ := h
  refine r_calli hW (va_runS (As := [.long (p0.toInt64), .long (20), .long (89)]) (rest := []) hC.1 (c_X7_in l D cy ad A _ _ _ _ _ hc) (va_cwS 3 hts (gdS wd_298 wd_299 wd_300 wd_297) rfl rfl rfl (by decide +kernel) ⟨Nat.le_of_ble_eq_true rfl, Nat.le_of_ble_eq_true rfl⟩) (r_preS hC hW) rfl rfl hl.1 rfl (lv_room (Nat.le_of_ble_eq_true rfl)) dX7_told_8 ⟨Nat.zero_le _, Nat.zero_le _⟩) (fun H locs hWn => ?_)
  replace hW := hWn
  clear hWn hc
  refine lv_if_eq (tgt := 29) hx hb dX7_told_11 (by decide) (fun cq => ?_) (fun cq => ?_)
  · replace h := tp cq h
    refine lv_iload_n hx hb dX7_told_29 rfl (lv_at hl 1 rfl) ?_
    refine lv_i2l hx hb dX7_told_30 rfl ?_
    refine lv_ldc2 hx hb hown (hts _ wd_444) dX7_told_31 ?_
    refine lv_ldc2 hx hb hown (hts _ wd_485) dX7_told_34 ?_
    refine lv_aload_n hx hb dX7_told_37 rfl (lv_at hl 0 rfl) ?_
    refine r_geti hC hW 0 (Nat.le_of_ble_eq_true rfl) rfl rfl rfl (by decide) inUX7 (hts _ wd_294) rfl dX7_told_38 ?_
    refine lv_i2l hx hb dX7_told_41 rfl ?_
    refine lv_ladd hx hb dX7_told_42 ?_
    replace h := bd h
    obtain ⟨r2, hc, h⟩ := h
    refine r_calli hW (va_runS (As := [.long (p0.toInt64), .long (10), .long ((9) + ((σ 0 0).toInt64))]) (rest := []) hC.1 (c_X7_in l D cy ad A _ _ _ _ _ hc) (va_cwS 3 hts (gdS wd_298 wd_299 wd_300 wd_297) rfl rfl rfl (by decide +kernel) ⟨Nat.le_of_ble_eq_true rfl, Nat.le_of_ble_eq_true rfl⟩) (r_preS hC hW) rfl rfl hl.1 rfl (lv_room (Nat.le_of_ble_eq_true rfl)) dX7_told_43 ⟨Nat.zero_le _, Nat.zero_le _⟩) (fun H locs hWn => ?_)
    replace hW := hWn
    clear hWn hc
    refine lv_if_eq (tgt := 59) hx hb dX7_told_46 (by decide) (fun cq => ?_) (fun cq => ?_)
    · replace h := tp cq h
      refine lv_iload_n hx hb dX7_told_59 rfl (lv_at hl 1 rfl) ?_
      refine lv_if_ne (tgt := 70) hx hb dX7_told_60 (by decide) (fun cq => ?_) (fun cq => ?_)
      · replace h := tn cq h
        refine lv_iload_n hx hb dX7_told_70 rfl (lv_at hl 1 rfl) ?_
        refine lv_iconst (v := 1) hx hb dX7_told_71 (by decide) ?_
        refine lv_icmp_ne (tgt := 82) hx hb dX7_told_72 (by decide) (fun cq => ?_) (fun cq => ?_)
        · replace h := tn cq h
          refine lv_iload_n hx hb dX7_told_82 rfl (lv_at hl 1 rfl) ?_
          refine lv_iconst (v := 2) hx hb dX7_told_83 (by decide) ?_
          refine lv_icmp_ne (tgt := 94) hx hb dX7_told_84 (by decide) (fun cq => ?_) (fun cq => ?_)
          · replace h := tn cq h
            refine lv_iload_n hx hb dX7_told_94 rfl (lv_at hl 1 rfl) ?_
            refine lv_iconst (v := 3) hx hb dX7_told_95 (by decide) ?_
            refine lv_icmp_ne (tgt := 106) hx hb dX7_told_96 (by decide) (fun cq => ?_) (fun cq => ?_)
            · replace h := tn cq h
              refine lv_iload_n hx hb dX7_told_106 rfl (lv_at hl 1 rfl) ?_
              refine lv_iconst (v := 4) hx hb dX7_told_107 (by decide) ?_
              refine lv_icmp_ne (tgt := 118) hx hb dX7_told_108 (by decide) (fun cq => ?_) (fun cq => ?_)
              · replace h := tn cq h
                refine lv_bipush (v := (-2)) hx hb dX7_told_118 (by decide) ?_
                exact r_iretP hC hr hlocks h hW dX7_told_120
              · replace h := tp cq h
                refine lv_aload_n hx hb dX7_told_111 rfl (lv_at hl 0 rfl) ?_
                refine r_geti hC hW 14 (Nat.le_of_ble_eq_true rfl) rfl rfl rfl (by decide) inUX7 (hts _ wd_343) rfl dX7_told_112 ?_
                refine lv_goto (tgt := 120) hx hb dX7_told_115 (by decide) ?_
                exact r_iretP hC hr hlocks h hW dX7_told_120
            · replace h := tp cq h
              refine lv_aload_n hx hb dX7_told_99 rfl (lv_at hl 0 rfl) ?_
              refine r_geti hC hW 11 (Nat.le_of_ble_eq_true rfl) rfl rfl rfl (by decide) inUX7 (hts _ wd_320) rfl dX7_told_100 ?_
              refine lv_goto (tgt := 120) hx hb dX7_told_103 (by decide) ?_
              exact r_iretP hC hr hlocks h hW dX7_told_120
          · replace h := tp cq h
            refine lv_aload_n hx hb dX7_told_87 rfl (lv_at hl 0 rfl) ?_
            refine r_geti hC hW 7 (Nat.le_of_ble_eq_true rfl) rfl rfl rfl (by decide) inUX7 (hts _ wd_316) rfl dX7_told_88 ?_
            refine lv_goto (tgt := 120) hx hb dX7_told_91 (by decide) ?_
            exact r_iretP hC hr hlocks h hW dX7_told_120
        · replace h := tp cq h
          refine lv_aload_n hx hb dX7_told_75 rfl (lv_at hl 0 rfl) ?_
          refine r_geti hC hW 0 (Nat.le_of_ble_eq_true rfl) rfl rfl rfl (by decide) inUX7 (hts _ wd_294) rfl dX7_told_76 ?_
          refine lv_goto (tgt := 120) hx hb dX7_told_79 (by decide) ?_
          exact r_iretP hC hr hlocks h hW dX7_told_120
      · replace h := tp cq h
        refine lv_aload_n hx hb dX7_told_63 rfl (lv_at hl 0 rfl) ?_
        refine r_geti hC hW 16 (Nat.le_of_ble_eq_true rfl) rfl rfl rfl (by decide) inUX7 (hts _ wd_310) rfl dX7_told_64 ?_
        refine lv_goto (tgt := 120) hx hb dX7_told_67 (by decide) ?_
        exact r_iretP hC hr hlocks h hW dX7_told_120
    · replace h := tn cq h
      refine lv_aload_n hx hb dX7_told_49 rfl (lv_at hl 0 rfl) ?_
      refine r_getr hC hW 6 (Nat.le_of_ble_eq_true rfl) rfl rfl rfl (by decide) inUX7 (hts _ wd_399) rfl dX7_told_50 ?_
      refine lv_iload_n hx hb dX7_told_53 rfl (lv_at hl 1 rfl) ?_
      refine lv_bipush (v := 10) hx hb dX7_told_54 (by decide) ?_
      refine lv_isub hx hb dX7_told_56 ?_
      replace h := og h
      obtain ⟨hi, h⟩ := h
      refine r_ald hC hW (Nat.le_of_ble_eq_true rfl) rfl hi dX7_told_57 ?_
      exact r_iretP hC hr hlocks h hW dX7_told_58
  · replace h := tn cq h
    refine lv_aload_n hx hb dX7_told_14 rfl (lv_at hl 0 rfl) ?_
    refine lv_iload_n hx hb dX7_told_15 rfl (lv_at hl 1 rfl) ?_
    refine lv_bipush (v := 10) hx hb dX7_told_16 (by decide) ?_
    refine lv_idiv hx hb dX7_told_18 (by decide) ?_
    refine lv_iconst (v := 2) hx hb dX7_told_19 (by decide) ?_
    refine lv_isub hx hb dX7_told_20 ?_
    refine lv_iload_n hx hb dX7_told_21 rfl (lv_at hl 1 rfl) ?_
    refine lv_bipush (v := 10) hx hb dX7_told_22 (by decide) ?_
    refine lv_irem hx hb dX7_told_24 (by decide) ?_
    replace h := bd h
    obtain ⟨r3, hc, h⟩ := h
    refine r_calli hW (va_runV (As := [.int ((p0 / 10) - 2), .int (p0 - p0 / 10 * 10)]) (rest := []) hC.1 (c_X7_toldOfEgg l D cy ad A _ _ _ _ hc) (cwV 2 hts (gdV wd_487 wd_488 wd_489 wd_300 wd_486) rfl rfl rfl (by decide +kernel) ⟨Nat.le_of_ble_eq_true rfl, Nat.le_of_ble_eq_true rfl⟩) (r_preV hC hW (Nat.le_of_ble_eq_true rfl) rfl rfl) rfl rfl hl.1 rfl (lv_room (Nat.le_of_ble_eq_true rfl)) dX7_told_25 ⟨Nat.zero_le _, Nat.zero_le _⟩) (fun H locs hWn => ?_)
    replace hW := hWn
    clear hWn hc
    exact r_iretP hC hr hlocks h hW dX7_told_28
set_option maxHeartbeats 4000000 in
set_option maxRecDepth 100000 in
theorem c_X7_wipe (l : Launch) (D : va_G) (cy : ClassId × ClassId) (ad : Nat → Nat) (A : Nat → Prop) (σ : Hp) (r : Int32) (σ' : Hp) (h : t_X7_wipe σ = some (r, σ')) : Ci l yX7_wipe us_X7_wipe ({ frames := 0, cells := 0, slots := 0, locals := 0 } : Room) D cy 27 shM ad A [.ref (ad 0)] σ r σ' := by
  unfold t_X7_wipe at h
  refine Met.ofW (cc := cX7_wipe) (maxL := 2) (ret := (some .int)) (by decide) rfl ?_
  intro p e s m args below meth c s₁ B hml hv
  obtain ⟨rfl, hP, hK, hD, hA, hN⟩ := hv
  have hx := B.exec
  have hb := B.bytes
  have hr := B.returns
  have hlocks := B.notSynchronized
  have hts : ∀ w ∈ wsU, w.before _ s = true := fun w h => atoms_spec (ws := us_X7_wipe) B.pre w (List.mem_cons_of_mem _ h)
  have hown : s.vm.findClass RX7 = some m.cls := findClass_of_methodNamed B.named
  have hC : Cx p m c cX7_wipe 2 s _ wsU RX7 D cy := ⟨⟨hx, hb, hml, hown, hts⟩, hK, hN⟩
  have hW : Wd D cy 27 shM ad A s.heap σ s.heap [] := ⟨hP, hD, va_S.rf, hA⟩
  have hl := lv_entry ([.ref (ad 0)]) (n := 2) (Nat.le_of_ble_eq_true rfl)
  rw [lg_entry_eq]
  generalize (lg_sl ([.ref (ad 0)]) ++ List.replicate (2 - (lg_sl ([.ref (ad 0)])).length) Slot.unset).toArray = ls at hl ⊢
  have hl : lv_has ls 2 [(0, .ref (ad 0))] := hl
  refine lv_aload_n hx hb dX7_wipe_0 rfl (lv_at hl 0 rfl) ?_
  refine r_geti hC hW 16 (Nat.le_of_ble_eq_true rfl) rfl rfl rfl (by decide) inUX7 (hts _ wd_310) rfl dX7_wipe_1 ?_
  replace h := bx h
  obtain ⟨x1, ex1, h⟩ := h
  refine tope ex1 ?_
  clear ex1
  refine lv_istore_n (lv' := [(1, .int x1), (0, .ref (ad 0))]) hx hb dX7_wipe_4 rfl hl (by decide) rfl (fun ls hln => ?_)
  replace hl := hln
  clear hln
  refine lv_aload_n hx hb dX7_wipe_5 rfl (lv_at hl 1 rfl) ?_
  refine lv_iconst (v := 0) hx hb dX7_wipe_6 (by decide) ?_
  refine r_put hC hW 16 (Nat.le_of_ble_eq_true rfl) rfl rfl rfl (by decide) inUX7 tyX7 tyX7_ok nmX7 (hts _ wd_310) rfl rfl ⟨rfl, rfl⟩ dX7_wipe_7 (fun σ2 eσ2 H locs hWn => ?_)
  replace h := bn eσ2 h
  replace hW := hWn
  clear hWn eσ2
  refine lv_iload_n hx hb dX7_wipe_10 rfl (lv_at hl 0 rfl) ?_
  exact r_iretW hC hr hlocks h hW dX7_wipe_11
set_option maxHeartbeats 4000000 in
set_option maxRecDepth 100000 in
theorem c_X7_year (l : Launch) (D : va_G) (cy : ClassId × ClassId) (ad : Nat → Nat) (A : Nat → Prop) (N : Nat) (p0 : Int32) (p1 : Int32) (p2 : Int32) (σ : Hp) (r : Int32) (σ' : Hp) (h : t_X7_year N p0 p1 p2 σ = some (r, σ')) : Ci l yX7_year us_X7_year ({ frames := 1, cells := 0, slots := 0, locals := 25 } : Room) D cy 27 shM ad A [.ref (ad 0), .int p0, .int p1, .int p2] σ r σ' := by
  unfold t_X7_year at h
  refine Met.ofW (cc := cX7_year) (maxL := 9) (ret := (some .int)) (by decide) rfl ?_
  intro p e s m args below meth c s₁ B hml hv
  obtain ⟨rfl, hP, hK, hD, hA, hN⟩ := hv
  have hx := B.exec
  have hb := B.bytes
  have hr := B.returns
  have hlocks := B.notSynchronized
  have hts : ∀ w ∈ wsU, w.before _ s = true := fun w h => atoms_spec (ws := us_X7_year) B.pre w (List.mem_cons_of_mem _ h)
  have hown : s.vm.findClass RX7 = some m.cls := findClass_of_methodNamed B.named
  have hC : Cx p m c cX7_year 9 s _ wsU RX7 D cy := ⟨⟨hx, hb, hml, hown, hts⟩, hK, hN⟩
  have hW : Wd D cy 27 shM ad A s.heap σ s.heap [] := ⟨hP, hD, va_S.rf, hA⟩
  have hl := lv_entry ([.ref (ad 0), .int p0, .int p1, .int p2]) (n := 9) (Nat.le_of_ble_eq_true rfl)
  rw [lg_entry_eq]
  generalize (lg_sl ([.ref (ad 0), .int p0, .int p1, .int p2]) ++ List.replicate (9 - (lg_sl ([.ref (ad 0), .int p0, .int p1, .int p2])).length) Slot.unset).toArray = ls at hl ⊢
  have hl : lv_has ls 9 [(0, .ref (ad 0)), (1, .int p0), (2, .int p1), (3, .int p2)] := hl
  have L69 : ∀ (f : Nat) (v2 : Int32) (v3 : Int32) (v4 : Int32) (v5 : Int32) (v6 : Int32) (v7 : Int32) (σ : Hp), t_X7_year_69 N f v2 v3 v4 v5 v6 v7 σ = some (r, σ') → ∀ (H : Heap) (locs : List Loc), Wd D cy 27 shM ad A s.heap σ H locs → ∀ ls : Array Slot, lv_has ls 9 [(0, .ref (ad 0)), (2, .int v2), (3, .int v3), (4, .int v4), (5, .int v5), (6, .int v6), (7, .int v7)] → Gi p l e us_X7_year ({ frames := 1, cells := 0, slots := 0, locals := 25 } : Room) s m [.ref (ad 0), .int p0, .int p1, .int p2] below meth c D cy 27 shM ad A r σ' H locs (F0 m 69 ls []) := by
    intro f
    unfold t_X7_year_69
    refine loopG_ind (fun (T : Int32 → Int32 → Int32 → Int32 → Int32 → Int32 → Hp → Option (Int32 × Hp)) => ∀ (v2 : Int32) (v3 : Int32) (v4 : Int32) (v5 : Int32) (v6 : Int32) (v7 : Int32) (σ : Hp), T v2 v3 v4 v5 v6 v7 σ = some (r, σ') → ∀ (H : Heap) (locs : List Loc), Wd D cy 27 shM ad A s.heap σ H locs → ∀ ls : Array Slot, lv_has ls 9 [(0, .ref (ad 0)), (2, .int v2), (3, .int v3), (4, .int v4), (5, .int v5), (6, .int v6), (7, .int v7)] → Gi p l e us_X7_year ({ frames := 1, cells := 0, slots := 0, locals := 25 } : Room) s m [.ref (ad 0), .int p0, .int p1, .int p2] below meth c D cy 27 shM ad A r σ' H locs (F0 m 69 ls [])) ?_ ?_ f
    · intro v2 v3 v4 v5 v6 v7 σ h; exact absurd h (by simp)
    · intro k69 ih69
      have J135 : ∀ (v2 : Int32) (v3 : Int32) (v4 : Int32) (v6 : Int32) (v7 : Int32) (s0 : Int32) (σ : Hp), t_X7_year_135 N k69 v2 v3 v4 v6 v7 s0 σ = some (r, σ') → ∀ (H : Heap) (locs : List Loc), Wd D cy 27 shM ad A s.heap σ H locs → ∀ ls : Array Slot, lv_has ls 9 [(0, .ref (ad 0)), (2, .int v2), (3, .int v3), (4, .int v4), (6, .int v6), (7, .int v7)] → Gi p l e us_X7_year ({ frames := 1, cells := 0, slots := 0, locals := 25 } : Room) s m [.ref (ad 0), .int p0, .int p1, .int p2] below meth c D cy 27 shM ad A r σ' H locs (F0 m 135 ls [.int s0]) := by
        intro v2 v3 v4 v6 v7 s0 σ h H locs hW ls hl
        unfold t_X7_year_135 at h
        refine lv_istore (lv' := [(5, .int s0), (0, .ref (ad 0)), (2, .int v2), (3, .int v3), (4, .int v4), (6, .int v6), (7, .int v7)]) hx hb dX7_year_135 hl (by decide) rfl (fun ls hln => ?_)
        replace hl := hln
        clear hln
        refine lv_iload hx hb dX7_year_137 (lv_at hl 5 rfl) ?_
        refine lv_aload_n hx hb dX7_year_139 rfl (lv_at hl 1 rfl) ?_
        refine r_geti hC hW 7 (Nat.le_of_ble_eq_true rfl) rfl rfl rfl (by decide) inUX7 (hts _ wd_316) rfl dX7_year_140 ?_
        replace h := bd h
        obtain ⟨r1, hc, h⟩ := h
        refine r_calli hW (va_runS (As := [.int (σ 0 7)]) (rest := [.int v6]) hC.1 (c_X7_ones l D cy ad A N _ _ _ hc) (va_cwS 1 hts (gdS wd_463 wd_464 wd_300 wd_462) rfl rfl rfl (by decide +kernel) ⟨Nat.le_of_ble_eq_true rfl, Nat.le_of_ble_eq_true rfl⟩) (r_preS hC hW) rfl rfl hl.1 rfl (lv_room (Nat.le_of_ble_eq_true rfl)) dX7_year_143 ⟨Nat.zero_le _, Nat.zero_le _⟩) (fun H locs hWn => ?_)
        replace hW := hWn
        clear hWn hc
        refine lv_iadd hx hb dX7_year_146 ?_
        replace h := bx h
        obtain ⟨x2, ex2, h⟩ := h
        refine tope ex2 ?_
        clear ex2
        refine lv_istore (lv' := [(6, .int x2), (5, .int s0), (0, .ref (ad 0)), (2, .int v2), (3, .int v3), (4, .int v4), (7, .int v7)]) hx hb dX7_year_147 hl (by decide) rfl (fun ls hln => ?_)
        replace hl := hln
        clear hln
        replace h := bx h
        obtain ⟨x3, ex3, h⟩ := h
        refine lv_iinc (v := x3) (lv' := [(7, .int x3), (6, .int x2), (5, .int s0), (0, .ref (ad 0)), (2, .int v2), (3, .int v3), (4, .int v4)]) hx hb dX7_year_149 hl (k := 6) rfl (by rw [ex3]; rfl) (by decide) rfl (fun ls hln => ?_)
        replace hl := hln
        clear hln ex3
        refine lv_goto (tgt := 69) hx hb dX7_year_152 (by decide) ?_
        exact ih69 _ _ _ _ _ _ _ h _ _ hW _ (lv_sub hl [3, 4, 5, 6, 2, 1, 0] rfl)
      intro v2 v3 v4 v5 v6 v7 σ h H locs hW ls hl
      refine lv_iload hx hb dX7_year_69 (lv_at hl 6 rfl) ?_
      refine lv_iload_n hx hb dX7_year_71 rfl (lv_at hl 1 rfl) ?_
      refine lv_icmp_gt (tgt := 155) hx hb dX7_year_72 (by decide) (fun cq => ?_) (fun cq => ?_)
      · replace h := tp cq h
        refine lv_aload_n hx hb dX7_year_155 rfl (lv_at hl 0 rfl) ?_
        replace h := bd h
        obtain ⟨σ4, hc, h⟩ := h
        refine r_callv hW (va_runV (As := []) (rest := []) hC.1 (c_X7_putBack l D cy ad A N _ _ hc) (cwV 0 hts (gdV wd_345 wd_346 wd_347 wd_300 wd_344) rfl rfl rfl (by decide +kernel) ⟨Nat.le_of_ble_eq_true rfl, Nat.le_of_ble_eq_true rfl⟩) (r_preV hC hW (Nat.le_of_ble_eq_true rfl) rfl rfl) rfl rfl hl.1 rfl (lv_room (Nat.le_of_ble_eq_true rfl)) dX7_year_156 ⟨Nat.zero_le _, Nat.zero_le _⟩) (fun H locs hWn => ?_)
        replace hW := hWn
        clear hWn hc
        refine lv_iload_n hx hb dX7_year_159 rfl (lv_at hl 2 rfl) ?_
        refine lv_if_ne (tgt := 170) hx hb dX7_year_160 (by decide) (fun cq => ?_) (fun cq => ?_)
        · replace h := tn cq h
          refine lv_iload_n hx hb dX7_year_170 rfl (lv_at hl 2 rfl) ?_
          refine lv_iconst (v := 1) hx hb dX7_year_171 (by decide) ?_
          refine lv_icmp_ne (tgt := 180) hx hb dX7_year_172 (by decide) (fun cq => ?_) (fun cq => ?_)
          · replace h := tn cq h
            refine lv_iload hx hb dX7_year_180 (lv_at hl 5 rfl) ?_
            exact r_iretW hC hr hlocks h hW dX7_year_182
          · replace h := tp cq h
            refine lv_iload hx hb dX7_year_175 (lv_at hl 4 rfl) ?_
            refine lv_goto (tgt := 182) hx hb dX7_year_177 (by decide) ?_
            exact r_iretW hC hr hlocks h hW dX7_year_182
        · replace h := tp cq h
          refine lv_aload_n hx hb dX7_year_163 rfl (lv_at hl 0 rfl) ?_
          refine r_geti hC hW 24 (Nat.le_of_ble_eq_true rfl) rfl rfl rfl (by decide) inUX7 (hts _ wd_326) rfl dX7_year_164 ?_
          refine lv_goto (tgt := 182) hx hb dX7_year_167 (by decide) ?_
          exact r_iretW hC hr hlocks h hW dX7_year_182
      · replace h := tn cq h
        refine lv_ldc2 hx hb hown (hts _ wd_490) dX7_year_75 ?_
        refine lv_iload hx hb dX7_year_78 (lv_at hl 3 rfl) ?_
        refine lv_i2l hx hb dX7_year_80 rfl ?_
        refine lv_lmul hx hb dX7_year_81 ?_
        refine lv_ldc2 hx hb hown (hts _ wd_491) dX7_year_82 ?_
        refine lv_ladd hx hb dX7_year_85 ?_
        refine lv_ldc2 hx hb hown (hts _ wd_492) dX7_year_86 ?_
        refine lv_lrem hx hb dX7_year_89 (by decide) ?_
        refine lv_l2i hx hb dX7_year_90 rfl ?_
        replace h := bx h
        obtain ⟨x5, ex5, h⟩ := h
        refine tope ex5 ?_
        clear ex5
        refine lv_istore (lv' := [(4, .int x5), (0, .ref (ad 0)), (2, .int v2), (3, .int v3), (5, .int v5), (6, .int v6), (7, .int v7)]) hx hb dX7_year_91 hl (by decide) rfl (fun ls hln => ?_)
        replace hl := hln
        clear hln
        refine lv_aload_n hx hb dX7_year_93 rfl (lv_at hl 1 rfl) ?_
        refine lv_dup hx hb dX7_year_94 rfl ?_
        refine r_geti hC hW 7 (Nat.le_of_ble_eq_true rfl) rfl rfl rfl (by decide) inUX7 (hts _ wd_316) rfl dX7_year_95 ?_
        refine lv_iconst (v := 1) hx hb dX7_year_98 (by decide) ?_
        refine lv_iload hx hb dX7_year_99 (lv_at hl 0 rfl) ?_
        refine lv_bipush (v := 6) hx hb dX7_year_101 (by decide) ?_
        refine lv_irem hx hb dX7_year_103 (by decide) ?_
        refine lv_ishl hx hb dX7_year_104 ?_
        refine lv_ixor hx hb dX7_year_105 ?_
        refine r_put hC hW 7 (Nat.le_of_ble_eq_true rfl) rfl rfl rfl (by decide) inUX7 tyX7 tyX7_ok nmX7 (hts _ wd_316) rfl rfl ⟨rfl, rfl⟩ dX7_year_106 (fun σ6 eσ6 H locs hWn => ?_)
        replace h := bn eσ6 h
        replace hW := hWn
        clear hWn eσ6
        refine lv_aload_n hx hb dX7_year_109 rfl (lv_at hl 1 rfl) ?_
        refine r_geti hC hW 24 (Nat.le_of_ble_eq_true rfl) rfl rfl rfl (by decide) inUX7 (hts _ wd_326) rfl dX7_year_110 ?_
        replace h := bx h
        obtain ⟨x7, ex7, h⟩ := h
        refine tope ex7 ?_
        clear ex7
        refine lv_istore (lv' := [(8, .int x7), (4, .int x5), (0, .ref (ad 0)), (2, .int v2), (3, .int v3), (5, .int v5), (6, .int v6), (7, .int v7)]) hx hb dX7_year_113 hl (by decide) rfl (fun ls hln => ?_)
        replace hl := hln
        clear hln
        refine lv_aload_n hx hb dX7_year_115 rfl (lv_at hl 2 rfl) ?_
        replace h := bd h
        obtain ⟨σ8, hc, h⟩ := h
        refine r_callv hW (va_runV (As := []) (rest := []) hC.1 (c_X7_passHour l D cy ad A N _ _ hc) (cwV 0 hts (gdV wd_330 wd_331 wd_332 wd_300 wd_329) rfl rfl rfl (by decide +kernel) ⟨Nat.le_of_ble_eq_true rfl, Nat.le_of_ble_eq_true rfl⟩) (r_preV hC hW (Nat.le_of_ble_eq_true rfl) rfl rfl) rfl rfl hl.1 rfl (lv_room (Nat.le_of_ble_eq_true rfl)) dX7_year_116 ⟨Nat.zero_le _, Nat.zero_le _⟩) (fun H locs hWn => ?_)
        replace hW := hWn
        clear hWn hc
        refine lv_aload_n hx hb dX7_year_119 rfl (lv_at hl 2 rfl) ?_
        refine r_geti hC hW 24 (Nat.le_of_ble_eq_true rfl) rfl rfl rfl (by decide) inUX7 (hts _ wd_326) rfl dX7_year_120 ?_
        refine lv_iload hx hb dX7_year_123 (lv_at hl 0 rfl) ?_
        refine lv_icmp_le (tgt := 133) hx hb dX7_year_125 (by decide) (fun cq => ?_) (fun cq => ?_)
        · replace h := tp cq h
          refine lv_iload hx hb dX7_year_133 (lv_at hl 5 rfl) ?_
          exact J135 _ _ _ _ _ _ _ h _ _ hW _ (lv_sub hl [2, 3, 4, 1, 6, 7] rfl)
        · replace h := tn cq h
          refine lv_iload hx hb dX7_year_128 (lv_at hl 7 rfl) ?_
          refine lv_goto (tgt := 135) hx hb dX7_year_130 (by decide) ?_
          exact J135 _ _ _ _ _ _ _ h _ _ hW _ (lv_sub hl [2, 3, 4, 1, 6, 7] rfl)
  refine lv_iload_n hx hb dX7_year_0 rfl (lv_at hl 1 rfl) ?_
  refine lv_i2l hx hb dX7_year_1 rfl ?_
  refine lv_lconst (v := 0) hx hb dX7_year_2 (by decide) ?_
  refine lv_ldc2 hx hb hown (hts _ wd_493) dX7_year_3 ?_
  replace h := bd h
  obtain ⟨r9, hc, h⟩ := h
  refine r_calli hW (va_runS (As := [.long (p0.toInt64), .long 0, .long (9999)]) (rest := []) hC.1 (c_X7_in l D cy ad A _ _ _ _ _ hc) (va_cwS 3 hts (gdS wd_298 wd_299 wd_300 wd_297) rfl rfl rfl (by decide +kernel) ⟨Nat.le_of_ble_eq_true rfl, Nat.le_of_ble_eq_true rfl⟩) (r_preS hC hW) rfl rfl hl.1 rfl (lv_room (Nat.le_of_ble_eq_true rfl)) dX7_year_6 ⟨Nat.zero_le _, Nat.zero_le _⟩) (fun H locs hWn => ?_)
  replace hW := hWn
  clear hWn hc
  refine lv_if_eq (tgt := 36) hx hb dX7_year_9 (by decide) (fun cq => ?_) (fun cq => ?_)
  · replace h := tp cq h
    refine lv_bipush (v := (-2)) hx hb dX7_year_36 (by decide) ?_
    exact r_iretW hC hr hlocks h hW dX7_year_38
  · replace h := tn cq h
    refine lv_iload_n hx hb dX7_year_12 rfl (lv_at hl 2 rfl) ?_
    refine lv_i2l hx hb dX7_year_13 rfl ?_
    refine lv_lconst (v := 1) hx hb dX7_year_14 (by decide) ?_
    refine lv_ldc2 hx hb hown (hts _ wd_469) dX7_year_15 ?_
    replace h := bd h
    obtain ⟨r10, hc, h⟩ := h
    refine r_calli hW (va_runS (As := [.long (p1.toInt64), .long 1, .long (99)]) (rest := []) hC.1 (c_X7_in l D cy ad A _ _ _ _ _ hc) (va_cwS 3 hts (gdS wd_298 wd_299 wd_300 wd_297) rfl rfl rfl (by decide +kernel) ⟨Nat.le_of_ble_eq_true rfl, Nat.le_of_ble_eq_true rfl⟩) (r_preS hC hW) rfl rfl hl.1 rfl (lv_room (Nat.le_of_ble_eq_true rfl)) dX7_year_18 ⟨Nat.zero_le _, Nat.zero_le _⟩) (fun H locs hWn => ?_)
    replace hW := hWn
    clear hWn hc
    refine lv_if_eq (tgt := 36) hx hb dX7_year_21 (by decide) (fun cq => ?_) (fun cq => ?_)
    · replace h := tp cq h
      refine lv_bipush (v := (-2)) hx hb dX7_year_36 (by decide) ?_
      exact r_iretW hC hr hlocks h hW dX7_year_38
    · replace h := tn cq h
      refine lv_iload_n hx hb dX7_year_24 rfl (lv_at hl 3 rfl) ?_
      refine lv_i2l hx hb dX7_year_25 rfl ?_
      refine lv_lconst (v := 0) hx hb dX7_year_26 (by decide) ?_
      refine lv_ldc2 hx hb hown (hts _ wd_415) dX7_year_27 ?_
      replace h := bd h
      obtain ⟨r11, hc, h⟩ := h
      refine r_calli hW (va_runS (As := [.long (p2.toInt64), .long 0, .long (2)]) (rest := []) hC.1 (c_X7_in l D cy ad A _ _ _ _ _ hc) (va_cwS 3 hts (gdS wd_298 wd_299 wd_300 wd_297) rfl rfl rfl (by decide +kernel) ⟨Nat.le_of_ble_eq_true rfl, Nat.le_of_ble_eq_true rfl⟩) (r_preS hC hW) rfl rfl hl.1 rfl (lv_room (Nat.le_of_ble_eq_true rfl)) dX7_year_30 ⟨Nat.zero_le _, Nat.zero_le _⟩) (fun H locs hWn => ?_)
      replace hW := hWn
      clear hWn hc
      refine lv_if_ne (tgt := 39) hx hb dX7_year_33 (by decide) (fun cq => ?_) (fun cq => ?_)
      · replace h := tn cq h
        refine lv_aload_n hx hb dX7_year_39 rfl (lv_at hl 0 rfl) ?_
        replace h := bd h
        obtain ⟨σ12, hc, h⟩ := h
        refine r_callv hW (va_runV (As := []) (rest := []) hC.1 (c_X7_layOrder l D cy ad A N _ _ hc) (cwV 0 hts (gdV wd_412 wd_413 wd_414 wd_300 wd_411) rfl rfl rfl (by decide +kernel) ⟨Nat.le_of_ble_eq_true rfl, Nat.le_of_ble_eq_true rfl⟩) (r_preV hC hW (Nat.le_of_ble_eq_true rfl) rfl rfl) rfl rfl hl.1 rfl (lv_room (Nat.le_of_ble_eq_true rfl)) dX7_year_40 ⟨Nat.zero_le _, Nat.zero_le _⟩) (fun H locs hWn => ?_)
        replace hW := hWn
        clear hWn hc
        refine lv_aload_n hx hb dX7_year_43 rfl (lv_at hl 0 rfl) ?_
        replace h := bd h
        obtain ⟨σ13, hc, h⟩ := h
        refine r_callv hW (va_runV (As := []) (rest := []) hC.1 (c_X7_keepNow l D cy ad A N _ _ hc) (cwV 0 hts (gdV wd_379 wd_380 wd_381 wd_300 wd_378) rfl rfl rfl (by decide +kernel) ⟨Nat.le_of_ble_eq_true rfl, Nat.le_of_ble_eq_true rfl⟩) (r_preV hC hW (Nat.le_of_ble_eq_true rfl) rfl rfl) rfl rfl hl.1 rfl (lv_room (Nat.le_of_ble_eq_true rfl)) dX7_year_44 ⟨Nat.zero_le _, Nat.zero_le _⟩) (fun H locs hWn => ?_)
        replace hW := hWn
        clear hWn hc
        refine lv_aload_n hx hb dX7_year_47 rfl (lv_at hl 0 rfl) ?_
        refine lv_iconst (v := 0) hx hb dX7_year_48 (by decide) ?_
        refine r_put hC hW 23 (Nat.le_of_ble_eq_true rfl) rfl rfl rfl (by decide) inUX7 tyX7 tyX7_ok nmX7 (hts _ wd_328) rfl rfl ⟨rfl, rfl⟩ dX7_year_49 (fun σ14 eσ14 H locs hWn => ?_)
        replace h := bn eσ14 h
        replace hW := hWn
        clear hWn eσ14
        refine lv_aload_n hx hb dX7_year_52 rfl (lv_at hl 0 rfl) ?_
        refine lv_iconst (v := 0) hx hb dX7_year_53 (by decide) ?_
        refine r_put hC hW 24 (Nat.le_of_ble_eq_true rfl) rfl rfl rfl (by decide) inUX7 tyX7 tyX7_ok nmX7 (hts _ wd_326) rfl rfl ⟨rfl, rfl⟩ dX7_year_54 (fun σ15 eσ15 H locs hWn => ?_)
        replace h := bn eσ15 h
        replace hW := hWn
        clear hWn eσ15
        refine lv_iload_n hx hb dX7_year_57 rfl (lv_at hl 1 rfl) ?_
        refine lv_istore (lv' := [(4, .int p0), (0, .ref (ad 0)), (1, .int p0), (2, .int p1), (3, .int p2)]) hx hb dX7_year_58 hl (by decide) rfl (fun ls hln => ?_)
        replace hl := hln
        clear hln
        refine lv_iconst (v := 0) hx hb dX7_year_60 (by decide) ?_
        refine lv_istore (lv' := [(5, .int 0), (4, .int p0), (0, .ref (ad 0)), (1, .int p0), (2, .int p1), (3, .int p2)]) hx hb dX7_year_61 hl (by decide) rfl (fun ls hln => ?_)
        replace hl := hln
        clear hln
        refine lv_iconst (v := 0) hx hb dX7_year_63 (by decide) ?_
        refine lv_istore (lv' := [(6, .int 0), (5, .int 0), (4, .int p0), (0, .ref (ad 0)), (1, .int p0), (2, .int p1), (3, .int p2)]) hx hb dX7_year_64 hl (by decide) rfl (fun ls hln => ?_)
        replace hl := hln
        clear hln
        refine lv_iconst (v := 1) hx hb dX7_year_66 (by decide) ?_
        refine lv_istore (lv' := [(7, .int 1), (6, .int 0), (5, .int 0), (4, .int p0), (0, .ref (ad 0)), (1, .int p0), (2, .int p1), (3, .int p2)]) hx hb dX7_year_67 hl (by decide) rfl (fun ls hln => ?_)
        replace hl := hln
        clear hln
        exact L69 _ _ _ _ _ _ _ _ h _ _ hW _ (lv_sub hl [4, 6, 7, 3, 2, 1, 0] rfl)
      · replace h := tp cq h
        refine lv_bipush (v := (-2)) hx hb dX7_year_36 (by decide) ?_
        exact r_iretW hC hr hlocks h hW dX7_year_38
