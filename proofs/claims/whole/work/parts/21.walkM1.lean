set_option maxHeartbeats 4000000 in
set_option maxRecDepth 100000 in
theorem c_X7_passHour (l : Launch) (D : va_G) (cy : ClassId × ClassId) (ad : Nat → Nat) (A : Nat → Prop) (N : Nat) (σ : Hp) (σ' : Hp) (h : t_X7_passHour N σ = some σ') : Cv l yX7_passHour us_X7_passHour ({ frames := 0, cells := 0, slots := 0, locals := 0 } : Room) D cy 27 shM ad A [.ref (ad 0)] σ σ' := by
  unfold t_X7_passHour at h
  refine Met.ofW (cc := cX7_passHour) (maxL := 4) (ret := none) (by decide) rfl ?_
  intro p e s m args below meth c s₁ B hml hv
  obtain ⟨rfl, hP, hK, hD, hA, hN⟩ := hv
  have hx := B.exec
  have hb := B.bytes
  have hr := B.returns
  have hlocks := B.notSynchronized
  have hts : ∀ w ∈ wsU, w.before _ s = true := fun w h => atoms_spec (ws := us_X7_passHour) B.pre w (List.mem_cons_of_mem _ h)
  have hown : s.vm.findClass RX7 = some m.cls := findClass_of_methodNamed B.named
  have hC : Cx p m c cX7_passHour 4 s _ wsU RX7 D cy := ⟨⟨hx, hb, hml, hown, hts⟩, hK, hN⟩
  have hW : Wd D cy 27 shM ad A s.heap σ s.heap [] := ⟨hP, hD, va_S.rf, hA⟩
  have hl := lv_entry ([.ref (ad 0)]) (n := 4) (Nat.le_of_ble_eq_true rfl)
  rw [lg_entry_eq]
  generalize (lg_sl ([.ref (ad 0)]) ++ List.replicate (4 - (lg_sl ([.ref (ad 0)])).length) Slot.unset).toArray = ls at hl ⊢
  have hl : lv_has ls 4 [(0, .ref (ad 0))] := hl
  have L91 : ∀ (f : Nat) (v1 : Int32) (v2 : Int32) (σ : Hp), t_X7_passHour_91 N f v1 v2 σ = some σ' → ∀ (H : Heap) (locs : List Loc), Wd D cy 27 shM ad A s.heap σ H locs → ∀ ls : Array Slot, lv_has ls 4 [(0, .ref (ad 0)), (1, .int v1), (2, .int v2)] → Gv p l e us_X7_passHour ({ frames := 0, cells := 0, slots := 0, locals := 0 } : Room) s m [.ref (ad 0)] below meth c D cy 27 shM ad A σ' H locs (F0 m 91 ls []) := by
    intro f
    unfold t_X7_passHour_91
    refine loopG_ind (fun (T : Int32 → Int32 → Hp → Option Hp) => ∀ (v1 : Int32) (v2 : Int32) (σ : Hp), T v1 v2 σ = some σ' → ∀ (H : Heap) (locs : List Loc), Wd D cy 27 shM ad A s.heap σ H locs → ∀ ls : Array Slot, lv_has ls 4 [(0, .ref (ad 0)), (1, .int v1), (2, .int v2)] → Gv p l e us_X7_passHour ({ frames := 0, cells := 0, slots := 0, locals := 0 } : Room) s m [.ref (ad 0)] below meth c D cy 27 shM ad A σ' H locs (F0 m 91 ls [])) ?_ ?_ f
    · intro v1 v2 σ h; exact absurd h (by simp)
    · intro k91 ih91
      have J176 : ∀ (v2 : Int32) (s0 : Int32) (σ : Hp), t_X7_passHour_176 N k91 v2 s0 σ = some σ' → ∀ (H : Heap) (locs : List Loc), Wd D cy 27 shM ad A s.heap σ H locs → ∀ ls : Array Slot, lv_has ls 4 [(0, .ref (ad 0)), (2, .int v2)] → Gv p l e us_X7_passHour ({ frames := 0, cells := 0, slots := 0, locals := 0 } : Room) s m [.ref (ad 0)] below meth c D cy 27 shM ad A σ' H locs (F0 m 176 ls [.int s0]) := by
        intro v2 s0 σ h H locs hW ls hl
        unfold t_X7_passHour_176 at h
        refine lv_istore_n (lv' := [(1, .int s0), (0, .ref (ad 0)), (2, .int v2)]) hx hb dX7_passHour_176 rfl hl (by decide) rfl (fun ls hln => ?_)
        replace hl := hln
        clear hln
        replace h := bx h
        obtain ⟨x1, ex1, h⟩ := h
        refine lv_iinc (v := x1) (lv' := [(2, .int x1), (1, .int s0), (0, .ref (ad 0))]) hx hb dX7_passHour_177 hl (k := 2) rfl (by rw [ex1]; rfl) (by decide) rfl (fun ls hln => ?_)
        replace hl := hln
        clear hln ex1
        refine lv_goto (tgt := 91) hx hb dX7_passHour_180 (by decide) ?_
        exact ih91 _ _ _ h _ _ hW _ (lv_sub hl [2, 1, 0] rfl)
      have J161 : ∀ (v2 : Int32) (v3 : Int32) (σ : Hp), t_X7_passHour_161 N k91 v2 v3 σ = some σ' → ∀ (H : Heap) (locs : List Loc), Wd D cy 27 shM ad A s.heap σ H locs → ∀ ls : Array Slot, lv_has ls 4 [(0, .ref (ad 0)), (2, .int v2), (3, .int v3)] → Gv p l e us_X7_passHour ({ frames := 0, cells := 0, slots := 0, locals := 0 } : Room) s m [.ref (ad 0)] below meth c D cy 27 shM ad A σ' H locs (F0 m 161 ls []) := by
        intro v2 v3 σ h H locs hW ls hl
        unfold t_X7_passHour_161 at h
        refine lv_aload_n hx hb dX7_passHour_161 rfl (lv_at hl 0 rfl) ?_
        refine r_getr hC hW 5 (Nat.le_of_ble_eq_true rfl) rfl rfl rfl (by decide) inUX7 (hts _ wd_295) rfl dX7_passHour_162 ?_
        refine lv_iload_n hx hb dX7_passHour_165 rfl (lv_at hl 2 rfl) ?_
        replace h := og h
        obtain ⟨hi, h⟩ := h
        refine r_ald hC hW (Nat.le_of_ble_eq_true rfl) rfl hi dX7_passHour_166 ?_
        refine lv_iconst (v := 1) hx hb dX7_passHour_167 (by decide) ?_
        refine lv_icmp_ne (tgt := 175) hx hb dX7_passHour_168 (by decide) (fun cq => ?_) (fun cq => ?_)
        · replace h := tn cq h
          refine lv_iconst (v := 0) hx hb dX7_passHour_175 (by decide) ?_
          exact J176 _ _ _ h _ _ hW _ (lv_sub hl [0, 1] rfl)
        · replace h := tp cq h
          refine lv_iconst (v := 1) hx hb dX7_passHour_171 (by decide) ?_
          refine lv_goto (tgt := 176) hx hb dX7_passHour_172 (by decide) ?_
          exact J176 _ _ _ h _ _ hW _ (lv_sub hl [0, 1] rfl)
      intro v1 v2 σ h H locs hW ls hl
      refine lv_iload_n hx hb dX7_passHour_91 rfl (lv_at hl 2 rfl) ?_
      refine lv_aload_n hx hb dX7_passHour_92 rfl (lv_at hl 0 rfl) ?_
      refine r_geti hC hW 0 (Nat.le_of_ble_eq_true rfl) rfl rfl rfl (by decide) inUX7 (hts _ wd_294) rfl dX7_passHour_93 ?_
      refine lv_icmp_ge (tgt := 183) hx hb dX7_passHour_96 (by decide) (fun cq => ?_) (fun cq => ?_)
      · replace h := tp cq h
        exact r_vretW hC hr hlocks h hW dX7_passHour_183
      · replace h := tn cq h
        refine lv_iload_n hx hb dX7_passHour_99 rfl (lv_at hl 1 rfl) ?_
        refine lv_if_eq (tgt := 183) hx hb dX7_passHour_100 (by decide) (fun cq => ?_) (fun cq => ?_)
        · replace h := tp cq h
          exact r_vretW hC hr hlocks h hW dX7_passHour_183
        · replace h := tn cq h
          refine lv_aload_n hx hb dX7_passHour_103 rfl (lv_at hl 0 rfl) ?_
          refine r_getr hC hW 22 (Nat.le_of_ble_eq_true rfl) rfl rfl rfl (by decide) inUX7 (hts _ wd_324) rfl dX7_passHour_104 ?_
          refine lv_iload_n hx hb dX7_passHour_107 rfl (lv_at hl 2 rfl) ?_
          replace h := og h
          obtain ⟨hi, h⟩ := h
          refine r_ald hC hW (Nat.le_of_ble_eq_true rfl) rfl hi dX7_passHour_108 ?_
          replace h := bx h
          obtain ⟨x2, ex2, h⟩ := h
          refine tope ex2 ?_
          clear ex2
          refine lv_istore_n (lv' := [(3, .int x2), (0, .ref (ad 0)), (1, .int v1), (2, .int v2)]) hx hb dX7_passHour_109 rfl hl (by decide) rfl (fun ls hln => ?_)
          replace hl := hln
          clear hln
          refine lv_aload_n hx hb dX7_passHour_110 rfl (lv_at hl 1 rfl) ?_
          refine r_getr hC hW 5 (Nat.le_of_ble_eq_true rfl) rfl rfl rfl (by decide) inUX7 (hts _ wd_295) rfl dX7_passHour_111 ?_
          refine lv_iload_n hx hb dX7_passHour_114 rfl (lv_at hl 0 rfl) ?_
          replace h := og h
          obtain ⟨hi, h⟩ := h
          refine r_ald hC hW (Nat.le_of_ble_eq_true rfl) rfl hi dX7_passHour_115 ?_
          refine lv_if_ne (tgt := 161) hx hb dX7_passHour_116 (by decide) (fun cq => ?_) (fun cq => ?_)
          · replace h := tn cq h
            exact J161 _ _ _ h _ _ hW _ (lv_sub hl [1, 3, 0] rfl)
          · replace h := tp cq h
            refine lv_aload_n hx hb dX7_passHour_119 rfl (lv_at hl 1 rfl) ?_
            refine r_getr hC hW 2 (Nat.le_of_ble_eq_true rfl) rfl rfl rfl (by decide) inUX7 (hts _ wd_317) rfl dX7_passHour_120 ?_
            refine lv_iload_n hx hb dX7_passHour_123 rfl (lv_at hl 0 rfl) ?_
            replace h := og h
            obtain ⟨hi, h⟩ := h
            refine r_ald hC hW (Nat.le_of_ble_eq_true rfl) rfl hi dX7_passHour_124 ?_
            refine lv_aload_n hx hb dX7_passHour_125 rfl (lv_at hl 1 rfl) ?_
            refine r_getr hC hW 1 (Nat.le_of_ble_eq_true rfl) rfl rfl rfl (by decide) inUX7 (hts _ wd_325) rfl dX7_passHour_126 ?_
            refine lv_iload_n hx hb dX7_passHour_129 rfl (lv_at hl 0 rfl) ?_
            replace h := og h
            obtain ⟨hi, h⟩ := h
            refine r_ald hC hW (Nat.le_of_ble_eq_true rfl) rfl hi dX7_passHour_130 ?_
            refine lv_icmp_lt (tgt := 161) hx hb dX7_passHour_131 (by decide) (fun cq => ?_) (fun cq => ?_)
            · replace h := tp cq h
              exact J161 _ _ _ h _ _ hW _ (lv_sub hl [1, 3, 0] rfl)
            · replace h := tn cq h
              refine lv_aload_n hx hb dX7_passHour_134 rfl (lv_at hl 1 rfl) ?_
              refine r_getr hC hW 5 (Nat.le_of_ble_eq_true rfl) rfl rfl rfl (by decide) inUX7 (hts _ wd_295) rfl dX7_passHour_135 ?_
              refine lv_iload_n hx hb dX7_passHour_138 rfl (lv_at hl 0 rfl) ?_
              refine lv_iconst (v := 1) hx hb dX7_passHour_139 (by decide) ?_
              replace h := og h
              obtain ⟨hi, h⟩ := h
              refine r_ast hC hW (Nat.le_of_ble_eq_true rfl) rfl hi dX7_passHour_140 (fun σ3 eσ3 H locs hWn => ?_)
              replace h := bn eσ3 h
              replace hW := hWn
              clear hWn eσ3
              refine lv_aload_n hx hb dX7_passHour_141 rfl (lv_at hl 1 rfl) ?_
              refine lv_dup hx hb dX7_passHour_142 rfl ?_
              refine r_geti hC hW 24 (Nat.le_of_ble_eq_true rfl) rfl rfl rfl (by decide) inUX7 (hts _ wd_326) rfl dX7_passHour_143 ?_
              refine lv_iconst (v := 1) hx hb dX7_passHour_146 (by decide) ?_
              refine lv_iadd hx hb dX7_passHour_147 ?_
              refine r_put hC hW 24 (Nat.le_of_ble_eq_true rfl) rfl rfl rfl (by decide) inUX7 tyX7 tyX7_ok nmX7 (hts _ wd_326) rfl rfl ⟨rfl, rfl⟩ dX7_passHour_148 (fun σ4 eσ4 H locs hWn => ?_)
              replace h := bn eσ4 h
              replace hW := hWn
              clear hWn eσ4
              refine lv_aload_n hx hb dX7_passHour_151 rfl (lv_at hl 1 rfl) ?_
              refine r_getr hC hW 25 (Nat.le_of_ble_eq_true rfl) rfl rfl rfl (by decide) inUX7 (hts _ wd_327) rfl dX7_passHour_152 ?_
              refine lv_iload_n hx hb dX7_passHour_155 rfl (lv_at hl 0 rfl) ?_
              refine lv_aload_n hx hb dX7_passHour_156 rfl (lv_at hl 1 rfl) ?_
              refine r_geti hC hW 23 (Nat.le_of_ble_eq_true rfl) rfl rfl rfl (by decide) inUX7 (hts _ wd_328) rfl dX7_passHour_157 ?_
              replace h := og h
              obtain ⟨hi, h⟩ := h
              refine r_ast hC hW (Nat.le_of_ble_eq_true rfl) rfl hi dX7_passHour_160 (fun σ5 eσ5 H locs hWn => ?_)
              replace h := bn eσ5 h
              replace hW := hWn
              clear hWn eσ5
              exact J161 _ _ _ h _ _ hW _ (lv_sub hl [1, 3, 0] rfl)
  have L12 : ∀ (f : Nat) (v1 : Int32) (σ : Hp), t_X7_passHour_12 N f v1 σ = some σ' → ∀ (H : Heap) (locs : List Loc), Wd D cy 27 shM ad A s.heap σ H locs → ∀ ls : Array Slot, lv_has ls 4 [(0, .ref (ad 0)), (1, .int v1)] → Gv p l e us_X7_passHour ({ frames := 0, cells := 0, slots := 0, locals := 0 } : Room) s m [.ref (ad 0)] below meth c D cy 27 shM ad A σ' H locs (F0 m 12 ls []) := by
    intro f
    unfold t_X7_passHour_12
    refine loopG_ind (fun (T : Int32 → Hp → Option Hp) => ∀ (v1 : Int32) (σ : Hp), T v1 σ = some σ' → ∀ (H : Heap) (locs : List Loc), Wd D cy 27 shM ad A s.heap σ H locs → ∀ ls : Array Slot, lv_has ls 4 [(0, .ref (ad 0)), (1, .int v1)] → Gv p l e us_X7_passHour ({ frames := 0, cells := 0, slots := 0, locals := 0 } : Room) s m [.ref (ad 0)] below meth c D cy 27 shM ad A σ' H locs (F0 m 12 ls [])) ?_ ?_ f
    · intro v1 σ h; exact absurd h (by simp)
    · intro k12 ih12
      have J79 : ∀ (v1 : Int32) (s1 : Int32) (s2 : Int32) (s3 : Int32) (σ : Hp), t_X7_passHour_79 N k12 v1 s1 s2 s3 σ = some σ' → ∀ (H : Heap) (locs : List Loc), Wd D cy 27 shM ad A s.heap σ H locs → ∀ ls : Array Slot, lv_has ls 4 [(0, .ref (ad 0)), (1, .int v1)] → Gv p l e us_X7_passHour ({ frames := 0, cells := 0, slots := 0, locals := 0 } : Room) s m [.ref (ad 0)] below meth c D cy 27 shM ad A σ' H locs (F0 m 79 ls [.int s3, .int s2, .int s1, .ref (ad 2)]) := by
        intro v1 s1 s2 s3 σ h H locs hW ls hl
        unfold t_X7_passHour_79 at h
        refine lv_iadd hx hb dX7_passHour_79 ?_
        replace h := og h
        obtain ⟨hi, h⟩ := h
        refine r_ast hC hW (Nat.le_of_ble_eq_true rfl) rfl hi dX7_passHour_80 (fun σ6 eσ6 H locs hWn => ?_)
        replace h := bn eσ6 h
        replace hW := hWn
        clear hWn eσ6
        replace h := bx h
        obtain ⟨x7, ex7, h⟩ := h
        refine lv_iinc (v := x7) (lv' := [(1, .int x7), (0, .ref (ad 0))]) hx hb dX7_passHour_81 hl (k := 1) rfl (by rw [ex7]; rfl) (by decide) rfl (fun ls hln => ?_)
        replace hl := hln
        clear hln ex7
        refine lv_goto (tgt := 12) hx hb dX7_passHour_84 (by decide) ?_
        exact ih12 _ _ h _ _ hW _ (lv_sub hl [1, 0] rfl)
      have J78 : ∀ (v1 : Int32) (s1 : Int32) (s2 : Int32) (σ : Hp), t_X7_passHour_78 N k12 v1 s1 s2 σ = some σ' → ∀ (H : Heap) (locs : List Loc), Wd D cy 27 shM ad A s.heap σ H locs → ∀ ls : Array Slot, lv_has ls 4 [(0, .ref (ad 0)), (1, .int v1)] → Gv p l e us_X7_passHour ({ frames := 0, cells := 0, slots := 0, locals := 0 } : Room) s m [.ref (ad 0)] below meth c D cy 27 shM ad A σ' H locs (F0 m 78 ls [.int s2, .int s1, .ref (ad 2)]) := by
        intro v1 s1 s2 σ h H locs hW ls hl
        unfold t_X7_passHour_78 at h
        refine lv_iconst (v := 0) hx hb dX7_passHour_78 (by decide) ?_
        exact J79 _ _ _ _ _ h _ _ hW _ (lv_sub hl [0, 1] rfl)
      have J51 : ∀ (v1 : Int32) (s0 : Int32) (σ : Hp), t_X7_passHour_51 N k12 v1 s0 σ = some σ' → ∀ (H : Heap) (locs : List Loc), Wd D cy 27 shM ad A s.heap σ H locs → ∀ ls : Array Slot, lv_has ls 4 [(0, .ref (ad 0)), (1, .int v1)] → Gv p l e us_X7_passHour ({ frames := 0, cells := 0, slots := 0, locals := 0 } : Room) s m [.ref (ad 0)] below meth c D cy 27 shM ad A σ' H locs (F0 m 51 ls [.int s0]) := by
        intro v1 s0 σ h H locs hW ls hl
        unfold t_X7_passHour_51 at h
        refine lv_istore_n (lv' := [(2, .int s0), (0, .ref (ad 0)), (1, .int v1)]) hx hb dX7_passHour_51 rfl hl (by decide) rfl (fun ls hln => ?_)
        replace hl := hln
        clear hln
        refine lv_aload_n hx hb dX7_passHour_52 rfl (lv_at hl 1 rfl) ?_
        refine r_getr hC hW 2 (Nat.le_of_ble_eq_true rfl) rfl rfl rfl (by decide) inUX7 (hts _ wd_317) rfl dX7_passHour_53 ?_
        refine lv_iload_n hx hb dX7_passHour_56 rfl (lv_at hl 2 rfl) ?_
        refine lv_dup2_11 hx hb dX7_passHour_57 rfl rfl ?_
        replace h := og h
        obtain ⟨hi, h⟩ := h
        refine r_ald hC hW (Nat.le_of_ble_eq_true rfl) rfl hi dX7_passHour_58 ?_
        refine lv_iload_n hx hb dX7_passHour_59 rfl (lv_at hl 0 rfl) ?_
        refine lv_if_eq (tgt := 78) hx hb dX7_passHour_60 (by decide) (fun cq => ?_) (fun cq => ?_)
        · replace h := tp cq h
          exact J78 _ _ _ _ h _ _ hW _ (lv_sub hl [1, 2] rfl)
        · replace h := tn cq h
          refine lv_aload_n hx hb dX7_passHour_63 rfl (lv_at hl 1 rfl) ?_
          refine r_getr hC hW 2 (Nat.le_of_ble_eq_true rfl) rfl rfl rfl (by decide) inUX7 (hts _ wd_317) rfl dX7_passHour_64 ?_
          refine lv_iload_n hx hb dX7_passHour_67 rfl (lv_at hl 2 rfl) ?_
          replace h := og h
          obtain ⟨hi, h⟩ := h
          refine r_ald hC hW (Nat.le_of_ble_eq_true rfl) rfl hi dX7_passHour_68 ?_
          refine lv_bipush (v := 9) hx hb dX7_passHour_69 (by decide) ?_
          refine lv_icmp_ge (tgt := 78) hx hb dX7_passHour_71 (by decide) (fun cq => ?_) (fun cq => ?_)
          · replace h := tp cq h
            exact J78 _ _ _ _ h _ _ hW _ (lv_sub hl [1, 2] rfl)
          · replace h := tn cq h
            refine lv_iconst (v := 1) hx hb dX7_passHour_74 (by decide) ?_
            refine lv_goto (tgt := 79) hx hb dX7_passHour_75 (by decide) ?_
            exact J79 _ _ _ _ _ h _ _ hW _ (lv_sub hl [1, 2] rfl)
      have J50 : ∀ (v1 : Int32) (σ : Hp), t_X7_passHour_50 N k12 v1 σ = some σ' → ∀ (H : Heap) (locs : List Loc), Wd D cy 27 shM ad A s.heap σ H locs → ∀ ls : Array Slot, lv_has ls 4 [(0, .ref (ad 0)), (1, .int v1)] → Gv p l e us_X7_passHour ({ frames := 0, cells := 0, slots := 0, locals := 0 } : Room) s m [.ref (ad 0)] below meth c D cy 27 shM ad A σ' H locs (F0 m 50 ls []) := by
        intro v1 σ h H locs hW ls hl
        unfold t_X7_passHour_50 at h
        refine lv_iconst (v := 0) hx hb dX7_passHour_50 (by decide) ?_
        exact J51 _ _ _ h _ _ hW _ (lv_sub hl [0, 1] rfl)
      intro v1 σ h H locs hW ls hl
      refine lv_iload_n hx hb dX7_passHour_12 rfl (lv_at hl 1 rfl) ?_
      refine lv_aload_n hx hb dX7_passHour_13 rfl (lv_at hl 0 rfl) ?_
      refine r_geti hC hW 0 (Nat.le_of_ble_eq_true rfl) rfl rfl rfl (by decide) inUX7 (hts _ wd_294) rfl dX7_passHour_14 ?_
      refine lv_icmp_ge (tgt := 87) hx hb dX7_passHour_17 (by decide) (fun cq => ?_) (fun cq => ?_)
      · replace h := tp cq h
        refine lv_iconst (v := 1) hx hb dX7_passHour_87 (by decide) ?_
        refine lv_istore_n (lv' := [(1, .int 1), (0, .ref (ad 0))]) hx hb dX7_passHour_88 rfl hl (by decide) rfl (fun ls hln => ?_)
        replace hl := hln
        clear hln
        refine lv_iconst (v := 0) hx hb dX7_passHour_89 (by decide) ?_
        refine lv_istore_n (lv' := [(2, .int 0), (1, .int 1), (0, .ref (ad 0))]) hx hb dX7_passHour_90 rfl hl (by decide) rfl (fun ls hln => ?_)
        replace hl := hln
        clear hln
        exact L91 _ _ _ _ h _ _ hW _ (lv_sub hl [2, 1, 0] rfl)
      · replace h := tn cq h
        refine lv_aload_n hx hb dX7_passHour_20 rfl (lv_at hl 0 rfl) ?_
        refine r_getr hC hW 5 (Nat.le_of_ble_eq_true rfl) rfl rfl rfl (by decide) inUX7 (hts _ wd_295) rfl dX7_passHour_21 ?_
        refine lv_iload_n hx hb dX7_passHour_24 rfl (lv_at hl 1 rfl) ?_
        replace h := og h
        obtain ⟨hi, h⟩ := h
        refine r_ald hC hW (Nat.le_of_ble_eq_true rfl) rfl hi dX7_passHour_25 ?_
        refine lv_if_ne (tgt := 50) hx hb dX7_passHour_26 (by decide) (fun cq => ?_) (fun cq => ?_)
        · replace h := tn cq h
          exact J50 _ _ h _ _ hW _ (lv_sub hl [0, 1] rfl)
        · replace h := tp cq h
          refine lv_aload_n hx hb dX7_passHour_29 rfl (lv_at hl 0 rfl) ?_
          refine r_geti hC hW 7 (Nat.le_of_ble_eq_true rfl) rfl rfl rfl (by decide) inUX7 (hts _ wd_316) rfl dX7_passHour_30 ?_
          refine lv_aload_n hx hb dX7_passHour_33 rfl (lv_at hl 0 rfl) ?_
          refine r_getr hC hW 4 (Nat.le_of_ble_eq_true rfl) rfl rfl rfl (by decide) inUX7 (hts _ wd_318) rfl dX7_passHour_34 ?_
          refine lv_iload_n hx hb dX7_passHour_37 rfl (lv_at hl 1 rfl) ?_
          replace h := og h
          obtain ⟨hi, h⟩ := h
          refine r_ald hC hW (Nat.le_of_ble_eq_true rfl) rfl hi dX7_passHour_38 ?_
          refine lv_ishr hx hb dX7_passHour_39 ?_
          refine lv_iconst (v := 1) hx hb dX7_passHour_40 (by decide) ?_
          refine lv_iand hx hb dX7_passHour_41 ?_
          refine lv_iconst (v := 1) hx hb dX7_passHour_42 (by decide) ?_
          refine lv_icmp_ne (tgt := 50) hx hb dX7_passHour_43 (by decide) (fun cq => ?_) (fun cq => ?_)
          · replace h := tn cq h
            exact J50 _ _ h _ _ hW _ (lv_sub hl [0, 1] rfl)
          · replace h := tp cq h
            refine lv_iconst (v := 1) hx hb dX7_passHour_46 (by decide) ?_
            refine lv_goto (tgt := 51) hx hb dX7_passHour_47 (by decide) ?_
            exact J51 _ _ _ h _ _ hW _ (lv_sub hl [0, 1] rfl)
  refine lv_aload_n hx hb dX7_passHour_0 rfl (lv_at hl 0 rfl) ?_
  refine lv_dup hx hb dX7_passHour_1 rfl ?_
  refine r_geti hC hW 23 (Nat.le_of_ble_eq_true rfl) rfl rfl rfl (by decide) inUX7 (hts _ wd_328) rfl dX7_passHour_2 ?_
  refine lv_iconst (v := 1) hx hb dX7_passHour_5 (by decide) ?_
  refine lv_iadd hx hb dX7_passHour_6 ?_
  refine r_put hC hW 23 (Nat.le_of_ble_eq_true rfl) rfl rfl rfl (by decide) inUX7 tyX7 tyX7_ok nmX7 (hts _ wd_328) rfl rfl ⟨rfl, rfl⟩ dX7_passHour_7 (fun σ8 eσ8 H locs hWn => ?_)
  replace h := bn eσ8 h
  replace hW := hWn
  clear hWn eσ8
  refine lv_iconst (v := 0) hx hb dX7_passHour_10 (by decide) ?_
  refine lv_istore_n (lv' := [(1, .int 0), (0, .ref (ad 0))]) hx hb dX7_passHour_11 rfl hl (by decide) rfl (fun ls hln => ?_)
  replace hl := hln
  clear hln
  exact L12 _ _ _ h _ _ hW _ (lv_sub hl [1, 0] rfl)
set_option maxHeartbeats 4000000 in
set_option maxRecDepth 100000 in
theorem c_X7_happen (l : Launch) (D : va_G) (cy : ClassId × ClassId) (ad : Nat → Nat) (A : Nat → Prop) (N : Nat) (p0 : Int32) (σ : Hp) (σ' : Hp) (h : t_X7_happen N p0 σ = some σ') : Cv l yX7_happen us_X7_happen ({ frames := 1, cells := 0, slots := 0, locals := 23 } : Room) D cy 27 shM ad A [.ref (ad 0), .int p0] σ σ' := by
  unfold t_X7_happen at h
  refine Met.ofW (cc := cX7_happen) (maxL := 3) (ret := none) (by decide) rfl ?_
  intro p e s m args below meth c s₁ B hml hv
  obtain ⟨rfl, hP, hK, hD, hA, hN⟩ := hv
  have hx := B.exec
  have hb := B.bytes
  have hr := B.returns
  have hlocks := B.notSynchronized
  have hts : ∀ w ∈ wsU, w.before _ s = true := fun w h => atoms_spec (ws := us_X7_happen) B.pre w (List.mem_cons_of_mem _ h)
  have hown : s.vm.findClass RX7 = some m.cls := findClass_of_methodNamed B.named
  have hC : Cx p m c cX7_happen 3 s _ wsU RX7 D cy := ⟨⟨hx, hb, hml, hown, hts⟩, hK, hN⟩
  have hW : Wd D cy 27 shM ad A s.heap σ s.heap [] := ⟨hP, hD, va_S.rf, hA⟩
  have hl := lv_entry ([.ref (ad 0), .int p0]) (n := 3) (Nat.le_of_ble_eq_true rfl)
  rw [lg_entry_eq]
  generalize (lg_sl ([.ref (ad 0), .int p0]) ++ List.replicate (3 - (lg_sl ([.ref (ad 0), .int p0])).length) Slot.unset).toArray = ls at hl ⊢
  have hl : lv_has ls 3 [(0, .ref (ad 0)), (1, .int p0)] := hl
  have J120 : ∀ (s1 : Int32) (s2 : Int32) (σ : Hp), t_X7_happen_120 N s1 s2 σ = some σ' → ∀ (H : Heap) (locs : List Loc), Wd D cy 27 shM ad A s.heap σ H locs → ∀ ls : Array Slot, lv_has ls 3 [] → Gv p l e us_X7_happen ({ frames := 1, cells := 0, slots := 0, locals := 23 } : Room) s m [.ref (ad 0), .int p0] below meth c D cy 27 shM ad A σ' H locs (F0 m 120 ls [.int s2, .int s1, .ref (ad 17)]) := by
    intro s1 s2 σ h H locs hW ls hl
    unfold t_X7_happen_120 at h
    replace h := og h
    obtain ⟨hi, h⟩ := h
    refine r_ast hC hW (Nat.le_of_ble_eq_true rfl) rfl hi dX7_happen_120 (fun σ1 eσ1 H locs hWn => ?_)
    replace h := bn eσ1 h
    replace hW := hWn
    clear hWn eσ1
    exact r_vretW hC hr hlocks h hW dX7_happen_121
  have J98 : ∀ (v1 : Int32) (v2 : Int32) (s1 : Int32) (s2 : Int32) (σ : Hp), t_X7_happen_98 N v1 v2 s1 s2 σ = some σ' → ∀ (H : Heap) (locs : List Loc), Wd D cy 27 shM ad A s.heap σ H locs → ∀ ls : Array Slot, lv_has ls 3 [(0, .ref (ad 0)), (1, .int v1), (2, .int v2)] → Gv p l e us_X7_happen ({ frames := 1, cells := 0, slots := 0, locals := 23 } : Room) s m [.ref (ad 0), .int p0] below meth c D cy 27 shM ad A σ' H locs (F0 m 98 ls [.int s2, .int s1, .ref (ad 5)]) := by
    intro v1 v2 s1 s2 σ h H locs hW ls hl
    unfold t_X7_happen_98 at h
    replace h := og h
    obtain ⟨hi, h⟩ := h
    refine r_ast hC hW (Nat.le_of_ble_eq_true rfl) rfl hi dX7_happen_98 (fun σ2 eσ2 H locs hWn => ?_)
    replace h := bn eσ2 h
    replace hW := hWn
    clear hWn eσ2
    refine lv_aload_n hx hb dX7_happen_99 rfl (lv_at hl 0 rfl) ?_
    refine r_getr hC hW 25 (Nat.le_of_ble_eq_true rfl) rfl rfl rfl (by decide) inUX7 (hts _ wd_327) rfl dX7_happen_100 ?_
    refine lv_iload_n hx hb dX7_happen_103 rfl (lv_at hl 2 rfl) ?_
    refine lv_aload_n hx hb dX7_happen_104 rfl (lv_at hl 0 rfl) ?_
    refine r_getr hC hW 17 (Nat.le_of_ble_eq_true rfl) rfl rfl rfl (by decide) inUX7 (hts _ wd_304) rfl dX7_happen_105 ?_
    refine lv_iload_n hx hb dX7_happen_108 rfl (lv_at hl 1 rfl) ?_
    replace h := og h
    obtain ⟨hi, h⟩ := h
    refine r_ald hC hW (Nat.le_of_ble_eq_true rfl) rfl hi dX7_happen_109 ?_
    refine lv_iconst (v := 3) hx hb dX7_happen_110 (by decide) ?_
    refine lv_icmp_ne (tgt := 119) hx hb dX7_happen_111 (by decide) (fun cq => ?_) (fun cq => ?_)
    · replace h := tn cq h
      refine lv_iconst (v := 0) hx hb dX7_happen_119 (by decide) ?_
      exact J120 _ _ _ h _ _ hW _ (lv_sub hl [] rfl)
    · replace h := tp cq h
      refine lv_bipush (v := (-6)) hx hb dX7_happen_114 (by decide) ?_
      refine lv_goto (tgt := 120) hx hb dX7_happen_116 (by decide) ?_
      exact J120 _ _ _ h _ _ hW _ (lv_sub hl [] rfl)
  refine lv_aload_n hx hb dX7_happen_0 rfl (lv_at hl 0 rfl) ?_
  refine r_getr hC hW 18 (Nat.le_of_ble_eq_true rfl) rfl rfl rfl (by decide) inUX7 (hts _ wd_305) rfl dX7_happen_1 ?_
  refine lv_iload_n hx hb dX7_happen_4 rfl (lv_at hl 1 rfl) ?_
  replace h := og h
  obtain ⟨hi, h⟩ := h
  refine r_ald hC hW (Nat.le_of_ble_eq_true rfl) rfl hi dX7_happen_5 ?_
  replace h := bx h
  obtain ⟨x3, ex3, h⟩ := h
  refine tope ex3 ?_
  clear ex3
  refine lv_istore_n (lv' := [(2, .int x3), (0, .ref (ad 0)), (1, .int p0)]) hx hb dX7_happen_6 rfl hl (by decide) rfl (fun ls hln => ?_)
  replace hl := hln
  clear hln
  refine lv_aload_n hx hb dX7_happen_7 rfl (lv_at hl 1 rfl) ?_
  refine r_getr hC hW 17 (Nat.le_of_ble_eq_true rfl) rfl rfl rfl (by decide) inUX7 (hts _ wd_304) rfl dX7_happen_8 ?_
  refine lv_iload_n hx hb dX7_happen_11 rfl (lv_at hl 2 rfl) ?_
  replace h := og h
  obtain ⟨hi, h⟩ := h
  refine r_ald hC hW (Nat.le_of_ble_eq_true rfl) rfl hi dX7_happen_12 ?_
  refine lv_if_ne (tgt := 23) hx hb dX7_happen_13 (by decide) (fun cq => ?_) (fun cq => ?_)
  · replace h := tn cq h
    refine lv_aload_n hx hb dX7_happen_23 rfl (lv_at hl 1 rfl) ?_
    refine r_getr hC hW 17 (Nat.le_of_ble_eq_true rfl) rfl rfl rfl (by decide) inUX7 (hts _ wd_304) rfl dX7_happen_24 ?_
    refine lv_iload_n hx hb dX7_happen_27 rfl (lv_at hl 2 rfl) ?_
    replace h := og h
    obtain ⟨hi, h⟩ := h
    refine r_ald hC hW (Nat.le_of_ble_eq_true rfl) rfl hi dX7_happen_28 ?_
    refine lv_iconst (v := 1) hx hb dX7_happen_29 (by decide) ?_
    refine lv_icmp_ne (tgt := 53) hx hb dX7_happen_30 (by decide) (fun cq => ?_) (fun cq => ?_)
    · replace h := tn cq h
      refine lv_aload_n hx hb dX7_happen_53 rfl (lv_at hl 1 rfl) ?_
      refine r_getr hC hW 17 (Nat.le_of_ble_eq_true rfl) rfl rfl rfl (by decide) inUX7 (hts _ wd_304) rfl dX7_happen_54 ?_
      refine lv_iload_n hx hb dX7_happen_57 rfl (lv_at hl 2 rfl) ?_
      replace h := og h
      obtain ⟨hi, h⟩ := h
      refine r_ald hC hW (Nat.le_of_ble_eq_true rfl) rfl hi dX7_happen_58 ?_
      refine lv_iconst (v := 2) hx hb dX7_happen_59 (by decide) ?_
      refine lv_icmp_ne (tgt := 78) hx hb dX7_happen_60 (by decide) (fun cq => ?_) (fun cq => ?_)
      · replace h := tn cq h
        refine lv_aload_n hx hb dX7_happen_78 rfl (lv_at hl 1 rfl) ?_
        refine r_getr hC hW 5 (Nat.le_of_ble_eq_true rfl) rfl rfl rfl (by decide) inUX7 (hts _ wd_295) rfl dX7_happen_79 ?_
        refine lv_iload_n hx hb dX7_happen_82 rfl (lv_at hl 0 rfl) ?_
        refine lv_aload_n hx hb dX7_happen_83 rfl (lv_at hl 1 rfl) ?_
        refine r_getr hC hW 17 (Nat.le_of_ble_eq_true rfl) rfl rfl rfl (by decide) inUX7 (hts _ wd_304) rfl dX7_happen_84 ?_
        refine lv_iload_n hx hb dX7_happen_87 rfl (lv_at hl 2 rfl) ?_
        replace h := og h
        obtain ⟨hi, h⟩ := h
        refine r_ald hC hW (Nat.le_of_ble_eq_true rfl) rfl hi dX7_happen_88 ?_
        refine lv_iconst (v := 3) hx hb dX7_happen_89 (by decide) ?_
        refine lv_icmp_ne (tgt := 97) hx hb dX7_happen_90 (by decide) (fun cq => ?_) (fun cq => ?_)
        · replace h := tn cq h
          refine lv_iconst (v := 1) hx hb dX7_happen_97 (by decide) ?_
          exact J98 _ _ _ _ _ h _ _ hW _ (lv_sub hl [1, 2, 0] rfl)
        · replace h := tp cq h
          refine lv_iconst (v := 2) hx hb dX7_happen_93 (by decide) ?_
          refine lv_goto (tgt := 98) hx hb dX7_happen_94 (by decide) ?_
          exact J98 _ _ _ _ _ h _ _ hW _ (lv_sub hl [1, 2, 0] rfl)
      · replace h := tp cq h
        refine lv_aload_n hx hb dX7_happen_63 rfl (lv_at hl 1 rfl) ?_
        refine r_getr hC hW 4 (Nat.le_of_ble_eq_true rfl) rfl rfl rfl (by decide) inUX7 (hts _ wd_318) rfl dX7_happen_64 ?_
        refine lv_iload_n hx hb dX7_happen_67 rfl (lv_at hl 0 rfl) ?_
        refine lv_aload_n hx hb dX7_happen_68 rfl (lv_at hl 1 rfl) ?_
        refine r_getr hC hW 19 (Nat.le_of_ble_eq_true rfl) rfl rfl rfl (by decide) inUX7 (hts _ wd_303) rfl dX7_happen_69 ?_
        refine lv_iload_n hx hb dX7_happen_72 rfl (lv_at hl 2 rfl) ?_
        replace h := og h
        obtain ⟨hi, h⟩ := h
        refine r_ald hC hW (Nat.le_of_ble_eq_true rfl) rfl hi dX7_happen_73 ?_
        replace h := og h
        obtain ⟨hi, h⟩ := h
        refine r_ast hC hW (Nat.le_of_ble_eq_true rfl) rfl hi dX7_happen_74 (fun σ4 eσ4 H locs hWn => ?_)
        replace h := bn eσ4 h
        replace hW := hWn
        clear hWn eσ4
        refine lv_goto (tgt := 121) hx hb dX7_happen_75 (by decide) ?_
        exact r_vretW hC hr hlocks h hW dX7_happen_121
    · replace h := tp cq h
      refine lv_aload_n hx hb dX7_happen_33 rfl (lv_at hl 1 rfl) ?_
      refine lv_dup hx hb dX7_happen_34 rfl ?_
      refine r_geti hC hW 7 (Nat.le_of_ble_eq_true rfl) rfl rfl rfl (by decide) inUX7 (hts _ wd_316) rfl dX7_happen_35 ?_
      refine lv_iconst (v := 1) hx hb dX7_happen_38 (by decide) ?_
      refine lv_aload_n hx hb dX7_happen_39 rfl (lv_at hl 1 rfl) ?_
      refine r_getr hC hW 19 (Nat.le_of_ble_eq_true rfl) rfl rfl rfl (by decide) inUX7 (hts _ wd_303) rfl dX7_happen_40 ?_
      refine lv_iload_n hx hb dX7_happen_43 rfl (lv_at hl 2 rfl) ?_
      replace h := og h
      obtain ⟨hi, h⟩ := h
      refine r_ald hC hW (Nat.le_of_ble_eq_true rfl) rfl hi dX7_happen_44 ?_
      refine lv_ishl hx hb dX7_happen_45 ?_
      refine lv_ixor hx hb dX7_happen_46 ?_
      refine r_put hC hW 7 (Nat.le_of_ble_eq_true rfl) rfl rfl rfl (by decide) inUX7 tyX7 tyX7_ok nmX7 (hts _ wd_316) rfl rfl ⟨rfl, rfl⟩ dX7_happen_47 (fun σ5 eσ5 H locs hWn => ?_)
      replace h := bn eσ5 h
      replace hW := hWn
      clear hWn eσ5
      refine lv_goto (tgt := 121) hx hb dX7_happen_50 (by decide) ?_
      exact r_vretW hC hr hlocks h hW dX7_happen_121
  · replace h := tp cq h
    refine lv_aload_n hx hb dX7_happen_16 rfl (lv_at hl 1 rfl) ?_
    replace h := bd h
    obtain ⟨σ6, hc, h⟩ := h
    refine r_callv hW (va_runV (As := []) (rest := []) hC.1 (c_X7_passHour l D cy ad A N _ _ hc) (cwV 0 hts (gdV wd_330 wd_331 wd_332 wd_300 wd_329) rfl rfl rfl (by decide +kernel) ⟨Nat.le_of_ble_eq_true rfl, Nat.le_of_ble_eq_true rfl⟩) (r_preV hC hW (Nat.le_of_ble_eq_true rfl) rfl rfl) rfl rfl hl.1 rfl (lv_room (Nat.le_of_ble_eq_true rfl)) dX7_happen_17 ⟨Nat.zero_le _, Nat.zero_le _⟩) (fun H locs hWn => ?_)
    replace hW := hWn
    clear hWn hc
    refine lv_goto (tgt := 121) hx hb dX7_happen_20 (by decide) ?_
    exact r_vretW hC hr hlocks h hW dX7_happen_121
set_option maxHeartbeats 4000000 in
set_option maxRecDepth 100000 in
theorem c_X7_goWeek (l : Launch) (D : va_G) (cy : ClassId × ClassId) (ad : Nat → Nat) (A : Nat → Prop) (N : Nat) (σ : Hp) (σ' : Hp) (h : t_X7_goWeek N σ = some σ') : Cv l yX7_goWeek us_X7_goWeek ({ frames := 2, cells := 0, slots := 0, locals := 45 } : Room) D cy 27 shM ad A [.ref (ad 0)] σ σ' := by
  unfold t_X7_goWeek at h
  refine Met.ofW (cc := cX7_goWeek) (maxL := 3) (ret := none) (by decide) rfl ?_
  intro p e s m args below meth c s₁ B hml hv
  obtain ⟨rfl, hP, hK, hD, hA, hN⟩ := hv
  have hx := B.exec
  have hb := B.bytes
  have hr := B.returns
  have hlocks := B.notSynchronized
  have hts : ∀ w ∈ wsU, w.before _ s = true := fun w h => atoms_spec (ws := us_X7_goWeek) B.pre w (List.mem_cons_of_mem _ h)
  have hown : s.vm.findClass RX7 = some m.cls := findClass_of_methodNamed B.named
  have hC : Cx p m c cX7_goWeek 3 s _ wsU RX7 D cy := ⟨⟨hx, hb, hml, hown, hts⟩, hK, hN⟩
  have hW : Wd D cy 27 shM ad A s.heap σ s.heap [] := ⟨hP, hD, va_S.rf, hA⟩
  have hl := lv_entry ([.ref (ad 0)]) (n := 3) (Nat.le_of_ble_eq_true rfl)
  rw [lg_entry_eq]
  generalize (lg_sl ([.ref (ad 0)]) ++ List.replicate (3 - (lg_sl ([.ref (ad 0)])).length) Slot.unset).toArray = ls at hl ⊢
  have hl : lv_has ls 3 [(0, .ref (ad 0))] := hl
  have L62 : ∀ (f : Nat) (v1 : Int32) (σ : Hp), t_X7_goWeek_62 N f v1 σ = some σ' → ∀ (H : Heap) (locs : List Loc), Wd D cy 27 shM ad A s.heap σ H locs → ∀ ls : Array Slot, lv_has ls 3 [(0, .ref (ad 0)), (1, .int v1)] → Gv p l e us_X7_goWeek ({ frames := 2, cells := 0, slots := 0, locals := 45 } : Room) s m [.ref (ad 0)] below meth c D cy 27 shM ad A σ' H locs (F0 m 62 ls []) := by
    intro f
    unfold t_X7_goWeek_62
    refine loopG_ind (fun (T : Int32 → Hp → Option Hp) => ∀ (v1 : Int32) (σ : Hp), T v1 σ = some σ' → ∀ (H : Heap) (locs : List Loc), Wd D cy 27 shM ad A s.heap σ H locs → ∀ ls : Array Slot, lv_has ls 3 [(0, .ref (ad 0)), (1, .int v1)] → Gv p l e us_X7_goWeek ({ frames := 2, cells := 0, slots := 0, locals := 45 } : Room) s m [.ref (ad 0)] below meth c D cy 27 shM ad A σ' H locs (F0 m 62 ls [])) ?_ ?_ f
    · intro v1 σ h; exact absurd h (by simp)
    · intro k62 ih62
      have J120 : ∀ (v1 : Int32) (σ : Hp), t_X7_goWeek_120 N k62 v1 σ = some σ' → ∀ (H : Heap) (locs : List Loc), Wd D cy 27 shM ad A s.heap σ H locs → ∀ ls : Array Slot, lv_has ls 3 [(0, .ref (ad 0)), (1, .int v1)] → Gv p l e us_X7_goWeek ({ frames := 2, cells := 0, slots := 0, locals := 45 } : Room) s m [.ref (ad 0)] below meth c D cy 27 shM ad A σ' H locs (F0 m 120 ls []) := by
        intro v1 σ h H locs hW ls hl
        unfold t_X7_goWeek_120 at h
        replace h := bx h
        obtain ⟨x1, ex1, h⟩ := h
        refine lv_iinc (v := x1) (lv' := [(1, .int x1), (0, .ref (ad 0))]) hx hb dX7_goWeek_120 hl (k := 1) rfl (by rw [ex1]; rfl) (by decide) rfl (fun ls hln => ?_)
        replace hl := hln
        clear hln ex1
        refine lv_goto (tgt := 62) hx hb dX7_goWeek_123 (by decide) ?_
        exact ih62 _ _ h _ _ hW _ (lv_sub hl [1, 0] rfl)
      have J108 : ∀ (v1 : Int32) (v2 : Int32) (s1 : Int32) (σ : Hp), t_X7_goWeek_108 N k62 v1 v2 s1 σ = some σ' → ∀ (H : Heap) (locs : List Loc), Wd D cy 27 shM ad A s.heap σ H locs → ∀ ls : Array Slot, lv_has ls 3 [(0, .ref (ad 0)), (1, .int v1), (2, .int v2)] → Gv p l e us_X7_goWeek ({ frames := 2, cells := 0, slots := 0, locals := 45 } : Room) s m [.ref (ad 0)] below meth c D cy 27 shM ad A σ' H locs (F0 m 108 ls [.int s1, .ref (ad 0)]) := by
        intro v1 v2 s1 σ h H locs hW ls hl
        unfold t_X7_goWeek_108 at h
        refine r_put hC hW 27 (Nat.le_of_ble_eq_true rfl) rfl rfl rfl (by decide) inUX7 tyX7 tyX7_ok nmX7 (hts _ wd_333) rfl rfl ⟨rfl, rfl⟩ dX7_goWeek_108 (fun σ2 eσ2 H locs hWn => ?_)
        replace h := bn eσ2 h
        replace hW := hWn
        clear hWn eσ2
        refine lv_iload_n hx hb dX7_goWeek_111 rfl (lv_at hl 2 rfl) ?_
        refine lv_if_ne (tgt := 120) hx hb dX7_goWeek_112 (by decide) (fun cq => ?_) (fun cq => ?_)
        · replace h := tn cq h
          exact J120 _ _ h _ _ hW _ (lv_sub hl [0, 1] rfl)
        · replace h := tp cq h
          refine lv_aload_n hx hb dX7_goWeek_115 rfl (lv_at hl 0 rfl) ?_
          refine lv_iload_n hx hb dX7_goWeek_116 rfl (lv_at hl 1 rfl) ?_
          replace h := bd h
          obtain ⟨σ3, hc, h⟩ := h
          refine r_callv hW (va_runV (As := [.int v1]) (rest := []) hC.1 (c_X7_happen l D cy ad A N _ _ _ hc) (cwV 1 hts (gdV wd_335 wd_336 wd_337 wd_300 wd_334) rfl rfl rfl (by decide +kernel) ⟨Nat.le_of_ble_eq_true rfl, Nat.le_of_ble_eq_true rfl⟩) (r_preV hC hW (Nat.le_of_ble_eq_true rfl) rfl rfl) rfl rfl hl.1 rfl (lv_room (Nat.le_of_ble_eq_true rfl)) dX7_goWeek_117 ⟨Nat.zero_le _, Nat.zero_le _⟩) (fun H locs hWn => ?_)
          replace hW := hWn
          clear hWn hc
          exact J120 _ _ h _ _ hW _ (lv_sub hl [0, 1] rfl)
      have J94 : ∀ (v1 : Int32) (v2 : Int32) (s1 : Int32) (σ : Hp), t_X7_goWeek_94 N k62 v1 v2 s1 σ = some σ' → ∀ (H : Heap) (locs : List Loc), Wd D cy 27 shM ad A s.heap σ H locs → ∀ ls : Array Slot, lv_has ls 3 [(0, .ref (ad 0)), (1, .int v1), (2, .int v2)] → Gv p l e us_X7_goWeek ({ frames := 2, cells := 0, slots := 0, locals := 45 } : Room) s m [.ref (ad 0)] below meth c D cy 27 shM ad A σ' H locs (F0 m 94 ls [.int s1, .ref (ad 0)]) := by
        intro v1 v2 s1 σ h H locs hW ls hl
        unfold t_X7_goWeek_94 at h
        refine r_put hC hW 26 (Nat.le_of_ble_eq_true rfl) rfl rfl rfl (by decide) inUX7 tyX7 tyX7_ok nmX7 (hts _ wd_338) rfl rfl ⟨rfl, rfl⟩ dX7_goWeek_94 (fun σ4 eσ4 H locs hWn => ?_)
        replace h := bn eσ4 h
        replace hW := hWn
        clear hWn eσ4
        refine lv_aload_n hx hb dX7_goWeek_97 rfl (lv_at hl 0 rfl) ?_
        refine lv_iload_n hx hb dX7_goWeek_98 rfl (lv_at hl 2 rfl) ?_
        refine lv_if_le (tgt := 106) hx hb dX7_goWeek_99 (by decide) (fun cq => ?_) (fun cq => ?_)
        · replace h := tp cq h
          refine lv_bipush (v := (-6)) hx hb dX7_goWeek_106 (by decide) ?_
          exact J108 _ _ _ _ h _ _ hW _ (lv_sub hl [0, 1, 2] rfl)
        · replace h := tn cq h
          refine lv_iload_n hx hb dX7_goWeek_102 rfl (lv_at hl 2 rfl) ?_
          refine lv_goto (tgt := 108) hx hb dX7_goWeek_103 (by decide) ?_
          exact J108 _ _ _ _ h _ _ hW _ (lv_sub hl [0, 1, 2] rfl)
      intro v1 σ h H locs hW ls hl
      refine lv_iload_n hx hb dX7_goWeek_62 rfl (lv_at hl 1 rfl) ?_
      refine lv_aload_n hx hb dX7_goWeek_63 rfl (lv_at hl 0 rfl) ?_
      refine r_geti hC hW 20 (Nat.le_of_ble_eq_true rfl) rfl rfl rfl (by decide) inUX7 (hts _ wd_302) rfl dX7_goWeek_64 ?_
      refine lv_icmp_ge (tgt := 126) hx hb dX7_goWeek_67 (by decide) (fun cq => ?_) (fun cq => ?_)
      · replace h := tp cq h
        exact r_vretW hC hr hlocks h hW dX7_goWeek_126
      · replace h := tn cq h
        refine lv_aload_n hx hb dX7_goWeek_70 rfl (lv_at hl 0 rfl) ?_
        refine r_geti hC hW 26 (Nat.le_of_ble_eq_true rfl) rfl rfl rfl (by decide) inUX7 (hts _ wd_338) rfl dX7_goWeek_71 ?_
        refine lv_if_ge (tgt := 126) hx hb dX7_goWeek_74 (by decide) (fun cq => ?_) (fun cq => ?_)
        · replace h := tp cq h
          exact r_vretW hC hr hlocks h hW dX7_goWeek_126
        · replace h := tn cq h
          refine lv_aload_n hx hb dX7_goWeek_77 rfl (lv_at hl 0 rfl) ?_
          refine lv_iload_n hx hb dX7_goWeek_78 rfl (lv_at hl 1 rfl) ?_
          replace h := bd h
          obtain ⟨r5, hc, h⟩ := h
          refine r_calli hW (va_runV (As := [.int v1]) (rest := []) hC.1 (c_X7_whyNot l D cy ad A _ _ _ hc) (cwV 1 hts (gdV wd_340 wd_341 wd_342 wd_300 wd_339) rfl rfl rfl (by decide +kernel) ⟨Nat.le_of_ble_eq_true rfl, Nat.le_of_ble_eq_true rfl⟩) (r_preV hC hW (Nat.le_of_ble_eq_true rfl) rfl rfl) rfl rfl hl.1 rfl (lv_room (Nat.le_of_ble_eq_true rfl)) dX7_goWeek_79 ⟨Nat.zero_le _, Nat.zero_le _⟩) (fun H locs hWn => ?_)
          replace hW := hWn
          clear hWn hc
          refine lv_istore_n (lv' := [(2, .int r5), (0, .ref (ad 0)), (1, .int v1)]) hx hb dX7_goWeek_82 rfl hl (by decide) rfl (fun ls hln => ?_)
          replace hl := hln
          clear hln
          refine lv_aload_n hx hb dX7_goWeek_83 rfl (lv_at hl 1 rfl) ?_
          refine lv_iload_n hx hb dX7_goWeek_84 rfl (lv_at hl 0 rfl) ?_
          refine lv_if_le (tgt := 92) hx hb dX7_goWeek_85 (by decide) (fun cq => ?_) (fun cq => ?_)
          · replace h := tp cq h
            refine lv_bipush (v := (-6)) hx hb dX7_goWeek_92 (by decide) ?_
            exact J94 _ _ _ _ h _ _ hW _ (lv_sub hl [1, 2, 0] rfl)
          · replace h := tn cq h
            refine lv_iload_n hx hb dX7_goWeek_88 rfl (lv_at hl 2 rfl) ?_
            refine lv_goto (tgt := 94) hx hb dX7_goWeek_89 (by decide) ?_
            exact J94 _ _ _ _ h _ _ hW _ (lv_sub hl [1, 2, 0] rfl)
  have L24 : ∀ (f : Nat) (v1 : Int32) (σ : Hp), t_X7_goWeek_24 N f v1 σ = some σ' → ∀ (H : Heap) (locs : List Loc), Wd D cy 27 shM ad A s.heap σ H locs → ∀ ls : Array Slot, lv_has ls 3 [(0, .ref (ad 0)), (1, .int v1)] → Gv p l e us_X7_goWeek ({ frames := 2, cells := 0, slots := 0, locals := 45 } : Room) s m [.ref (ad 0)] below meth c D cy 27 shM ad A σ' H locs (F0 m 24 ls []) := by
    intro f
    unfold t_X7_goWeek_24
    refine loopG_ind (fun (T : Int32 → Hp → Option Hp) => ∀ (v1 : Int32) (σ : Hp), T v1 σ = some σ' → ∀ (H : Heap) (locs : List Loc), Wd D cy 27 shM ad A s.heap σ H locs → ∀ ls : Array Slot, lv_has ls 3 [(0, .ref (ad 0)), (1, .int v1)] → Gv p l e us_X7_goWeek ({ frames := 2, cells := 0, slots := 0, locals := 45 } : Room) s m [.ref (ad 0)] below meth c D cy 27 shM ad A σ' H locs (F0 m 24 ls [])) ?_ ?_ f
    · intro v1 σ h; exact absurd h (by simp)
    · intro k24 ih24
      have J53 : ∀ (v1 : Int32) (s1 : Int32) (s2 : Int32) (σ : Hp), t_X7_goWeek_53 N k24 v1 s1 s2 σ = some σ' → ∀ (H : Heap) (locs : List Loc), Wd D cy 27 shM ad A s.heap σ H locs → ∀ ls : Array Slot, lv_has ls 3 [(0, .ref (ad 0)), (1, .int v1)] → Gv p l e us_X7_goWeek ({ frames := 2, cells := 0, slots := 0, locals := 45 } : Room) s m [.ref (ad 0)] below meth c D cy 27 shM ad A σ' H locs (F0 m 53 ls [.int s2, .int s1, .ref (ad 17)]) := by
        intro v1 s1 s2 σ h H locs hW ls hl
        unfold t_X7_goWeek_53 at h
        replace h := og h
        obtain ⟨hi, h⟩ := h
        refine r_ast hC hW (Nat.le_of_ble_eq_true rfl) rfl hi dX7_goWeek_53 (fun σ6 eσ6 H locs hWn => ?_)
        replace h := bn eσ6 h
        replace hW := hWn
        clear hWn eσ6
        replace h := bx h
        obtain ⟨x7, ex7, h⟩ := h
        refine lv_iinc (v := x7) (lv' := [(1, .int x7), (0, .ref (ad 0))]) hx hb dX7_goWeek_54 hl (k := 1) rfl (by rw [ex7]; rfl) (by decide) rfl (fun ls hln => ?_)
        replace hl := hln
        clear hln ex7
        refine lv_goto (tgt := 24) hx hb dX7_goWeek_57 (by decide) ?_
        exact ih24 _ _ h _ _ hW _ (lv_sub hl [1, 0] rfl)
      intro v1 σ h H locs hW ls hl
      refine lv_iload_n hx hb dX7_goWeek_24 rfl (lv_at hl 1 rfl) ?_
      refine lv_aload_n hx hb dX7_goWeek_25 rfl (lv_at hl 0 rfl) ?_
      refine r_geti hC hW 0 (Nat.le_of_ble_eq_true rfl) rfl rfl rfl (by decide) inUX7 (hts _ wd_294) rfl dX7_goWeek_26 ?_
      refine lv_icmp_ge (tgt := 60) hx hb dX7_goWeek_29 (by decide) (fun cq => ?_) (fun cq => ?_)
      · replace h := tp cq h
        refine lv_iconst (v := 0) hx hb dX7_goWeek_60 (by decide) ?_
        refine lv_istore_n (lv' := [(1, .int 0), (0, .ref (ad 0))]) hx hb dX7_goWeek_61 rfl hl (by decide) rfl (fun ls hln => ?_)
        replace hl := hln
        clear hln
        exact L62 _ _ _ h _ _ hW _ (lv_sub hl [1, 0] rfl)
      · replace h := tn cq h
        refine lv_aload_n hx hb dX7_goWeek_32 rfl (lv_at hl 0 rfl) ?_
        refine r_getr hC hW 25 (Nat.le_of_ble_eq_true rfl) rfl rfl rfl (by decide) inUX7 (hts _ wd_327) rfl dX7_goWeek_33 ?_
        refine lv_iload_n hx hb dX7_goWeek_36 rfl (lv_at hl 1 rfl) ?_
        refine lv_aload_n hx hb dX7_goWeek_37 rfl (lv_at hl 0 rfl) ?_
        refine r_getr hC hW 5 (Nat.le_of_ble_eq_true rfl) rfl rfl rfl (by decide) inUX7 (hts _ wd_295) rfl dX7_goWeek_38 ?_
        refine lv_iload_n hx hb dX7_goWeek_41 rfl (lv_at hl 1 rfl) ?_
        replace h := og h
        obtain ⟨hi, h⟩ := h
        refine r_ald hC hW (Nat.le_of_ble_eq_true rfl) rfl hi dX7_goWeek_42 ?_
        refine lv_iconst (v := 1) hx hb dX7_goWeek_43 (by decide) ?_
        refine lv_icmp_ne (tgt := 51) hx hb dX7_goWeek_44 (by decide) (fun cq => ?_) (fun cq => ?_)
        · replace h := tn cq h
          refine lv_bipush (v := (-6)) hx hb dX7_goWeek_51 (by decide) ?_
          exact J53 _ _ _ _ h _ _ hW _ (lv_sub hl [0, 1] rfl)
        · replace h := tp cq h
          refine lv_iconst (v := 0) hx hb dX7_goWeek_47 (by decide) ?_
          refine lv_goto (tgt := 53) hx hb dX7_goWeek_48 (by decide) ?_
          exact J53 _ _ _ _ h _ _ hW _ (lv_sub hl [0, 1] rfl)
  refine lv_aload_n hx hb dX7_goWeek_0 rfl (lv_at hl 0 rfl) ?_
  refine lv_bipush (v := (-6)) hx hb dX7_goWeek_1 (by decide) ?_
  refine r_put hC hW 26 (Nat.le_of_ble_eq_true rfl) rfl rfl rfl (by decide) inUX7 tyX7 tyX7_ok nmX7 (hts _ wd_338) rfl rfl ⟨rfl, rfl⟩ dX7_goWeek_3 (fun σ8 eσ8 H locs hWn => ?_)
  replace h := bn eσ8 h
  replace hW := hWn
  clear hWn eσ8
  refine lv_aload_n hx hb dX7_goWeek_6 rfl (lv_at hl 0 rfl) ?_
  refine lv_bipush (v := (-6)) hx hb dX7_goWeek_7 (by decide) ?_
  refine r_put hC hW 27 (Nat.le_of_ble_eq_true rfl) rfl rfl rfl (by decide) inUX7 tyX7 tyX7_ok nmX7 (hts _ wd_333) rfl rfl ⟨rfl, rfl⟩ dX7_goWeek_9 (fun σ9 eσ9 H locs hWn => ?_)
  replace h := bn eσ9 h
  replace hW := hWn
  clear hWn eσ9
  refine lv_aload_n hx hb dX7_goWeek_12 rfl (lv_at hl 0 rfl) ?_
  refine lv_iconst (v := 0) hx hb dX7_goWeek_13 (by decide) ?_
  refine r_put hC hW 23 (Nat.le_of_ble_eq_true rfl) rfl rfl rfl (by decide) inUX7 tyX7 tyX7_ok nmX7 (hts _ wd_328) rfl rfl ⟨rfl, rfl⟩ dX7_goWeek_14 (fun σ10 eσ10 H locs hWn => ?_)
  replace h := bn eσ10 h
  replace hW := hWn
  clear hWn eσ10
  refine lv_aload_n hx hb dX7_goWeek_17 rfl (lv_at hl 0 rfl) ?_
  refine lv_iconst (v := 0) hx hb dX7_goWeek_18 (by decide) ?_
  refine r_put hC hW 24 (Nat.le_of_ble_eq_true rfl) rfl rfl rfl (by decide) inUX7 tyX7 tyX7_ok nmX7 (hts _ wd_326) rfl rfl ⟨rfl, rfl⟩ dX7_goWeek_19 (fun σ11 eσ11 H locs hWn => ?_)
  replace h := bn eσ11 h
  replace hW := hWn
  clear hWn eσ11
  refine lv_iconst (v := 0) hx hb dX7_goWeek_22 (by decide) ?_
  refine lv_istore_n (lv' := [(1, .int 0), (0, .ref (ad 0))]) hx hb dX7_goWeek_23 rfl hl (by decide) rfl (fun ls hln => ?_)
  replace hl := hln
  clear hln
  exact L24 _ _ _ h _ _ hW _ (lv_sub hl [1, 0] rfl)
set_option maxHeartbeats 4000000 in
set_option maxRecDepth 100000 in
theorem c_X7_putBack (l : Launch) (D : va_G) (cy : ClassId × ClassId) (ad : Nat → Nat) (A : Nat → Prop) (N : Nat) (σ : Hp) (σ' : Hp) (h : t_X7_putBack N σ = some σ') : Cv l yX7_putBack us_X7_putBack ({ frames := 0, cells := 0, slots := 0, locals := 0 } : Room) D cy 27 shM ad A [.ref (ad 0)] σ σ' := by
  unfold t_X7_putBack at h
  refine Met.ofW (cc := cX7_putBack) (maxL := 2) (ret := none) (by decide) rfl ?_
  intro p e s m args below meth c s₁ B hml hv
  obtain ⟨rfl, hP, hK, hD, hA, hN⟩ := hv
  have hx := B.exec
  have hb := B.bytes
  have hr := B.returns
  have hlocks := B.notSynchronized
  have hts : ∀ w ∈ wsU, w.before _ s = true := fun w h => atoms_spec (ws := us_X7_putBack) B.pre w (List.mem_cons_of_mem _ h)
  have hown : s.vm.findClass RX7 = some m.cls := findClass_of_methodNamed B.named
  have hC : Cx p m c cX7_putBack 2 s _ wsU RX7 D cy := ⟨⟨hx, hb, hml, hown, hts⟩, hK, hN⟩
  have hW : Wd D cy 27 shM ad A s.heap σ s.heap [] := ⟨hP, hD, va_S.rf, hA⟩
  have hl := lv_entry ([.ref (ad 0)]) (n := 2) (Nat.le_of_ble_eq_true rfl)
  rw [lg_entry_eq]
  generalize (lg_sl ([.ref (ad 0)]) ++ List.replicate (2 - (lg_sl ([.ref (ad 0)])).length) Slot.unset).toArray = ls at hl ⊢
  have hl : lv_has ls 2 [(0, .ref (ad 0))] := hl
  have L2 : ∀ (f : Nat) (v1 : Int32) (σ : Hp), t_X7_putBack_2 N f v1 σ = some σ' → ∀ (H : Heap) (locs : List Loc), Wd D cy 27 shM ad A s.heap σ H locs → ∀ ls : Array Slot, lv_has ls 2 [(0, .ref (ad 0)), (1, .int v1)] → Gv p l e us_X7_putBack ({ frames := 0, cells := 0, slots := 0, locals := 0 } : Room) s m [.ref (ad 0)] below meth c D cy 27 shM ad A σ' H locs (F0 m 2 ls []) := by
    intro f
    unfold t_X7_putBack_2
    refine loopG_ind (fun (T : Int32 → Hp → Option Hp) => ∀ (v1 : Int32) (σ : Hp), T v1 σ = some σ' → ∀ (H : Heap) (locs : List Loc), Wd D cy 27 shM ad A s.heap σ H locs → ∀ ls : Array Slot, lv_has ls 2 [(0, .ref (ad 0)), (1, .int v1)] → Gv p l e us_X7_putBack ({ frames := 0, cells := 0, slots := 0, locals := 0 } : Room) s m [.ref (ad 0)] below meth c D cy 27 shM ad A σ' H locs (F0 m 2 ls [])) ?_ ?_ f
    · intro v1 σ h; exact absurd h (by simp)
    · intro k2 ih2
      intro v1 σ h H locs hW ls hl
      refine lv_iload_n hx hb dX7_putBack_2 rfl (lv_at hl 1 rfl) ?_
      refine lv_bipush (v := 7) hx hb dX7_putBack_3 (by decide) ?_
      refine lv_icmp_ge (tgt := 56) hx hb dX7_putBack_5 (by decide) (fun cq => ?_) (fun cq => ?_)
      · replace h := tp cq h
        refine lv_aload_n hx hb dX7_putBack_56 rfl (lv_at hl 0 rfl) ?_
        refine lv_aload_n hx hb dX7_putBack_57 rfl (lv_at hl 0 rfl) ?_
        refine r_getr hC hW 28 (Nat.le_of_ble_eq_true rfl) rfl rfl rfl (by decide) inUX7 (hts _ wd_315) rfl dX7_putBack_58 ?_
        refine lv_bipush (v := 21) hx hb dX7_putBack_61 (by decide) ?_
        replace h := og h
        obtain ⟨hi, h⟩ := h
        refine r_ald hC hW (Nat.le_of_ble_eq_true rfl) rfl hi dX7_putBack_63 ?_
        refine r_put hC hW 7 (Nat.le_of_ble_eq_true rfl) rfl rfl rfl (by decide) inUX7 tyX7 tyX7_ok nmX7 (hts _ wd_316) rfl rfl ⟨rfl, rfl⟩ dX7_putBack_64 (fun σ1 eσ1 H locs hWn => ?_)
        replace h := bn eσ1 h
        replace hW := hWn
        clear hWn eσ1
        exact r_vretW hC hr hlocks h hW dX7_putBack_67
      · replace h := tn cq h
        refine lv_aload_n hx hb dX7_putBack_8 rfl (lv_at hl 0 rfl) ?_
        refine r_getr hC hW 2 (Nat.le_of_ble_eq_true rfl) rfl rfl rfl (by decide) inUX7 (hts _ wd_317) rfl dX7_putBack_9 ?_
        refine lv_iload_n hx hb dX7_putBack_12 rfl (lv_at hl 1 rfl) ?_
        refine lv_aload_n hx hb dX7_putBack_13 rfl (lv_at hl 0 rfl) ?_
        refine r_getr hC hW 28 (Nat.le_of_ble_eq_true rfl) rfl rfl rfl (by decide) inUX7 (hts _ wd_315) rfl dX7_putBack_14 ?_
        refine lv_iload_n hx hb dX7_putBack_17 rfl (lv_at hl 1 rfl) ?_
        replace h := og h
        obtain ⟨hi, h⟩ := h
        refine r_ald hC hW (Nat.le_of_ble_eq_true rfl) rfl hi dX7_putBack_18 ?_
        replace h := og h
        obtain ⟨hi, h⟩ := h
        refine r_ast hC hW (Nat.le_of_ble_eq_true rfl) rfl hi dX7_putBack_19 (fun σ2 eσ2 H locs hWn => ?_)
        replace h := bn eσ2 h
        replace hW := hWn
        clear hWn eσ2
        refine lv_aload_n hx hb dX7_putBack_20 rfl (lv_at hl 0 rfl) ?_
        refine r_getr hC hW 4 (Nat.le_of_ble_eq_true rfl) rfl rfl rfl (by decide) inUX7 (hts _ wd_318) rfl dX7_putBack_21 ?_
        refine lv_iload_n hx hb dX7_putBack_24 rfl (lv_at hl 1 rfl) ?_
        refine lv_aload_n hx hb dX7_putBack_25 rfl (lv_at hl 0 rfl) ?_
        refine r_getr hC hW 28 (Nat.le_of_ble_eq_true rfl) rfl rfl rfl (by decide) inUX7 (hts _ wd_315) rfl dX7_putBack_26 ?_
        refine lv_bipush (v := 7) hx hb dX7_putBack_29 (by decide) ?_
        refine lv_iload_n hx hb dX7_putBack_31 rfl (lv_at hl 1 rfl) ?_
        refine lv_iadd hx hb dX7_putBack_32 ?_
        replace h := og h
        obtain ⟨hi, h⟩ := h
        refine r_ald hC hW (Nat.le_of_ble_eq_true rfl) rfl hi dX7_putBack_33 ?_
        replace h := og h
        obtain ⟨hi, h⟩ := h
        refine r_ast hC hW (Nat.le_of_ble_eq_true rfl) rfl hi dX7_putBack_34 (fun σ3 eσ3 H locs hWn => ?_)
        replace h := bn eσ3 h
        replace hW := hWn
        clear hWn eσ3
        refine lv_aload_n hx hb dX7_putBack_35 rfl (lv_at hl 0 rfl) ?_
        refine r_getr hC hW 5 (Nat.le_of_ble_eq_true rfl) rfl rfl rfl (by decide) inUX7 (hts _ wd_295) rfl dX7_putBack_36 ?_
        refine lv_iload_n hx hb dX7_putBack_39 rfl (lv_at hl 1 rfl) ?_
        refine lv_aload_n hx hb dX7_putBack_40 rfl (lv_at hl 0 rfl) ?_
        refine r_getr hC hW 28 (Nat.le_of_ble_eq_true rfl) rfl rfl rfl (by decide) inUX7 (hts _ wd_315) rfl dX7_putBack_41 ?_
        refine lv_bipush (v := 14) hx hb dX7_putBack_44 (by decide) ?_
        refine lv_iload_n hx hb dX7_putBack_46 rfl (lv_at hl 1 rfl) ?_
        refine lv_iadd hx hb dX7_putBack_47 ?_
        replace h := og h
        obtain ⟨hi, h⟩ := h
        refine r_ald hC hW (Nat.le_of_ble_eq_true rfl) rfl hi dX7_putBack_48 ?_
        replace h := og h
        obtain ⟨hi, h⟩ := h
        refine r_ast hC hW (Nat.le_of_ble_eq_true rfl) rfl hi dX7_putBack_49 (fun σ4 eσ4 H locs hWn => ?_)
        replace h := bn eσ4 h
        replace hW := hWn
        clear hWn eσ4
        replace h := bx h
        obtain ⟨x5, ex5, h⟩ := h
        refine lv_iinc (v := x5) (lv' := [(1, .int x5), (0, .ref (ad 0))]) hx hb dX7_putBack_50 hl (k := 1) rfl (by rw [ex5]; rfl) (by decide) rfl (fun ls hln => ?_)
        replace hl := hln
        clear hln ex5
        refine lv_goto (tgt := 2) hx hb dX7_putBack_53 (by decide) ?_
        exact ih2 _ _ h _ _ hW _ (lv_sub hl [1, 0] rfl)
  refine lv_iconst (v := 0) hx hb dX7_putBack_0 (by decide) ?_
  refine lv_istore_n (lv' := [(1, .int 0), (0, .ref (ad 0))]) hx hb dX7_putBack_1 rfl hl (by decide) rfl (fun ls hln => ?_)
  replace hl := hln
  clear hln
  exact L2 _ _ _ h _ _ hW _ (lv_sub hl [1, 0] rfl)
set_option maxHeartbeats 4000000 in
set_option maxRecDepth 100000 in
theorem c_X7_fitsSights (l : Launch) (D : va_G) (cy : ClassId × ClassId) (ad : Nat → Nat) (A : Nat → Prop) (N : Nat) (σ : Hp) (r : Int32) (σ' : Hp) (h : t_X7_fitsSights N σ = some (r, σ')) : Ci l yX7_fitsSights us_X7_fitsSights ({ frames := 3, cells := 0, slots := 0, locals := 67 } : Room) D cy 27 shM ad A [.ref (ad 0)] σ r σ' := by
  unfold t_X7_fitsSights at h
  refine Met.ofW (cc := cX7_fitsSights) (maxL := 4) (ret := (some .boolean)) (by decide) rfl ?_
  intro p e s m args below meth c s₁ B hml hv
  obtain ⟨rfl, hP, hK, hD, hA, hN⟩ := hv
  have hx := B.exec
  have hb := B.bytes
  have hr := B.returns
  have hlocks := B.notSynchronized
  have hts : ∀ w ∈ wsU, w.before _ s = true := fun w h => atoms_spec (ws := us_X7_fitsSights) B.pre w (List.mem_cons_of_mem _ h)
  have hown : s.vm.findClass RX7 = some m.cls := findClass_of_methodNamed B.named
  have hC : Cx p m c cX7_fitsSights 4 s _ wsU RX7 D cy := ⟨⟨hx, hb, hml, hown, hts⟩, hK, hN⟩
  have hW : Wd D cy 27 shM ad A s.heap σ s.heap [] := ⟨hP, hD, va_S.rf, hA⟩
  have hl := lv_entry ([.ref (ad 0)]) (n := 4) (Nat.le_of_ble_eq_true rfl)
  rw [lg_entry_eq]
  generalize (lg_sl ([.ref (ad 0)]) ++ List.replicate (4 - (lg_sl ([.ref (ad 0)])).length) Slot.unset).toArray = ls at hl ⊢
  have hl : lv_has ls 4 [(0, .ref (ad 0))] := hl
  have L28 : ∀ (f : Nat) (v1 : Int32) (v2 : Int32) (σ : Hp), t_X7_fitsSights_28 N f v1 v2 σ = some (r, σ') → ∀ (H : Heap) (locs : List Loc), Wd D cy 27 shM ad A s.heap σ H locs → ∀ ls : Array Slot, lv_has ls 4 [(0, .ref (ad 0)), (1, .int v1), (2, .int v2)] → Gi p l e us_X7_fitsSights ({ frames := 3, cells := 0, slots := 0, locals := 67 } : Room) s m [.ref (ad 0)] below meth c D cy 27 shM ad A r σ' H locs (F0 m 28 ls []) := by
    intro f
    unfold t_X7_fitsSights_28
    refine loopG_ind (fun (T : Int32 → Int32 → Hp → Option (Int32 × Hp)) => ∀ (v1 : Int32) (v2 : Int32) (σ : Hp), T v1 v2 σ = some (r, σ') → ∀ (H : Heap) (locs : List Loc), Wd D cy 27 shM ad A s.heap σ H locs → ∀ ls : Array Slot, lv_has ls 4 [(0, .ref (ad 0)), (1, .int v1), (2, .int v2)] → Gi p l e us_X7_fitsSights ({ frames := 3, cells := 0, slots := 0, locals := 67 } : Room) s m [.ref (ad 0)] below meth c D cy 27 shM ad A r σ' H locs (F0 m 28 ls [])) ?_ ?_ f
    · intro v1 v2 σ h; exact absurd h (by simp)
    · intro k28 ih28
      have J83 : ∀ (v2 : Int32) (s0 : Int32) (σ : Hp), t_X7_fitsSights_83 N k28 v2 s0 σ = some (r, σ') → ∀ (H : Heap) (locs : List Loc), Wd D cy 27 shM ad A s.heap σ H locs → ∀ ls : Array Slot, lv_has ls 4 [(0, .ref (ad 0)), (2, .int v2)] → Gi p l e us_X7_fitsSights ({ frames := 3, cells := 0, slots := 0, locals := 67 } : Room) s m [.ref (ad 0)] below meth c D cy 27 shM ad A r σ' H locs (F0 m 83 ls [.int s0]) := by
        intro v2 s0 σ h H locs hW ls hl
        unfold t_X7_fitsSights_83 at h
        refine lv_istore_n (lv' := [(1, .int s0), (0, .ref (ad 0)), (2, .int v2)]) hx hb dX7_fitsSights_83 rfl hl (by decide) rfl (fun ls hln => ?_)
        replace hl := hln
        clear hln
        replace h := bx h
        obtain ⟨x1, ex1, h⟩ := h
        refine lv_iinc (v := x1) (lv' := [(2, .int x1), (1, .int s0), (0, .ref (ad 0))]) hx hb dX7_fitsSights_84 hl (k := 2) rfl (by rw [ex1]; rfl) (by decide) rfl (fun ls hln => ?_)
        replace hl := hln
        clear hln ex1
        refine lv_goto (tgt := 28) hx hb dX7_fitsSights_87 (by decide) ?_
        exact ih28 _ _ _ h _ _ hW _ (lv_sub hl [2, 1, 0] rfl)
      have J82 : ∀ (v2 : Int32) (σ : Hp), t_X7_fitsSights_82 N k28 v2 σ = some (r, σ') → ∀ (H : Heap) (locs : List Loc), Wd D cy 27 shM ad A s.heap σ H locs → ∀ ls : Array Slot, lv_has ls 4 [(0, .ref (ad 0)), (2, .int v2)] → Gi p l e us_X7_fitsSights ({ frames := 3, cells := 0, slots := 0, locals := 67 } : Room) s m [.ref (ad 0)] below meth c D cy 27 shM ad A r σ' H locs (F0 m 82 ls []) := by
        intro v2 σ h H locs hW ls hl
        unfold t_X7_fitsSights_82 at h
        refine lv_iconst (v := 0) hx hb dX7_fitsSights_82 (by decide) ?_
        exact J83 _ _ _ h _ _ hW _ (lv_sub hl [0, 1] rfl)
      have J78 : ∀ (v2 : Int32) (σ : Hp), t_X7_fitsSights_78 N k28 v2 σ = some (r, σ') → ∀ (H : Heap) (locs : List Loc), Wd D cy 27 shM ad A s.heap σ H locs → ∀ ls : Array Slot, lv_has ls 4 [(0, .ref (ad 0)), (2, .int v2)] → Gi p l e us_X7_fitsSights ({ frames := 3, cells := 0, slots := 0, locals := 67 } : Room) s m [.ref (ad 0)] below meth c D cy 27 shM ad A r σ' H locs (F0 m 78 ls []) := by
        intro v2 σ h H locs hW ls hl
        unfold t_X7_fitsSights_78 at h
        refine lv_iconst (v := 1) hx hb dX7_fitsSights_78 (by decide) ?_
        refine lv_goto (tgt := 83) hx hb dX7_fitsSights_79 (by decide) ?_
        exact J83 _ _ _ h _ _ hW _ (lv_sub hl [0, 1] rfl)
      intro v1 v2 σ h H locs hW ls hl
      refine lv_iload_n hx hb dX7_fitsSights_28 rfl (lv_at hl 2 rfl) ?_
      refine lv_aload_n hx hb dX7_fitsSights_29 rfl (lv_at hl 0 rfl) ?_
      refine r_geti hC hW 14 (Nat.le_of_ble_eq_true rfl) rfl rfl rfl (by decide) inUX7 (hts _ wd_343) rfl dX7_fitsSights_30 ?_
      refine lv_icmp_ge (tgt := 90) hx hb dX7_fitsSights_33 (by decide) (fun cq => ?_) (fun cq => ?_)
      · replace h := tp cq h
        refine lv_aload_n hx hb dX7_fitsSights_90 rfl (lv_at hl 0 rfl) ?_
        replace h := bd h
        obtain ⟨σ2, hc, h⟩ := h
        refine r_callv hW (va_runV (As := []) (rest := []) hC.1 (c_X7_putBack l D cy ad A N _ _ hc) (cwV 0 hts (gdV wd_345 wd_346 wd_347 wd_300 wd_344) rfl rfl rfl (by decide +kernel) ⟨Nat.le_of_ble_eq_true rfl, Nat.le_of_ble_eq_true rfl⟩) (r_preV hC hW (Nat.le_of_ble_eq_true rfl) rfl rfl) rfl rfl hl.1 rfl (lv_room (Nat.le_of_ble_eq_true rfl)) dX7_fitsSights_91 ⟨Nat.zero_le _, Nat.zero_le _⟩) (fun H locs hWn => ?_)
        replace hW := hWn
        clear hWn hc
        refine lv_iload_n hx hb dX7_fitsSights_94 rfl (lv_at hl 1 rfl) ?_
        replace h := oz h
        obtain ⟨hz, h⟩ := h
        exact r_zretW hz hC hr hlocks h hW dX7_fitsSights_95
      · replace h := tn cq h
        refine lv_aload_n hx hb dX7_fitsSights_36 rfl (lv_at hl 0 rfl) ?_
        refine r_getr hC hW 25 (Nat.le_of_ble_eq_true rfl) rfl rfl rfl (by decide) inUX7 (hts _ wd_327) rfl dX7_fitsSights_37 ?_
        refine lv_aload_n hx hb dX7_fitsSights_40 rfl (lv_at hl 0 rfl) ?_
        refine r_getr hC hW 12 (Nat.le_of_ble_eq_true rfl) rfl rfl rfl (by decide) inUX7 (hts _ wd_348) rfl dX7_fitsSights_41 ?_
        refine lv_iload_n hx hb dX7_fitsSights_44 rfl (lv_at hl 2 rfl) ?_
        replace h := og h
        obtain ⟨hi, h⟩ := h
        refine r_ald hC hW (Nat.le_of_ble_eq_true rfl) rfl hi dX7_fitsSights_45 ?_
        replace h := og h
        obtain ⟨hi, h⟩ := h
        refine r_ald hC hW (Nat.le_of_ble_eq_true rfl) rfl hi dX7_fitsSights_46 ?_
        replace h := bx h
        obtain ⟨x3, ex3, h⟩ := h
        refine tope ex3 ?_
        clear ex3
        refine lv_istore_n (lv' := [(3, .int x3), (0, .ref (ad 0)), (1, .int v1), (2, .int v2)]) hx hb dX7_fitsSights_47 rfl hl (by decide) rfl (fun ls hln => ?_)
        replace hl := hln
        clear hln
        refine lv_iload_n hx hb dX7_fitsSights_48 rfl (lv_at hl 2 rfl) ?_
        refine lv_if_eq (tgt := 82) hx hb dX7_fitsSights_49 (by decide) (fun cq => ?_) (fun cq => ?_)
        · replace h := tp cq h
          exact J82 _ _ h _ _ hW _ (lv_sub hl [1, 3] rfl)
        · replace h := tn cq h
          refine lv_aload_n hx hb dX7_fitsSights_52 rfl (lv_at hl 1 rfl) ?_
          refine r_getr hC hW 13 (Nat.le_of_ble_eq_true rfl) rfl rfl rfl (by decide) inUX7 (hts _ wd_349) rfl dX7_fitsSights_53 ?_
          refine lv_iload_n hx hb dX7_fitsSights_56 rfl (lv_at hl 3 rfl) ?_
          replace h := og h
          obtain ⟨hi, h⟩ := h
          refine r_ald hC hW (Nat.le_of_ble_eq_true rfl) rfl hi dX7_fitsSights_57 ?_
          refine lv_if_ne (tgt := 68) hx hb dX7_fitsSights_58 (by decide) (fun cq => ?_) (fun cq => ?_)
          · replace h := tn cq h
            refine lv_iload_n hx hb dX7_fitsSights_68 rfl (lv_at hl 0 rfl) ?_
            refine lv_aload_n hx hb dX7_fitsSights_69 rfl (lv_at hl 1 rfl) ?_
            refine r_getr hC hW 13 (Nat.le_of_ble_eq_true rfl) rfl rfl rfl (by decide) inUX7 (hts _ wd_349) rfl dX7_fitsSights_70 ?_
            refine lv_iload_n hx hb dX7_fitsSights_73 rfl (lv_at hl 3 rfl) ?_
            replace h := og h
            obtain ⟨hi, h⟩ := h
            refine r_ald hC hW (Nat.le_of_ble_eq_true rfl) rfl hi dX7_fitsSights_74 ?_
            refine lv_icmp_ne (tgt := 82) hx hb dX7_fitsSights_75 (by decide) (fun cq => ?_) (fun cq => ?_)
            · replace h := tn cq h
              exact J82 _ _ h _ _ hW _ (lv_sub hl [1, 3] rfl)
            · replace h := tp cq h
              exact J78 _ _ h _ _ hW _ (lv_sub hl [1, 3] rfl)
          · replace h := tp cq h
            refine lv_iload_n hx hb dX7_fitsSights_61 rfl (lv_at hl 0 rfl) ?_
            refine lv_if_ge (tgt := 82) hx hb dX7_fitsSights_62 (by decide) (fun cq => ?_) (fun cq => ?_)
            · replace h := tp cq h
              exact J82 _ _ h _ _ hW _ (lv_sub hl [1, 3] rfl)
            · replace h := tn cq h
              refine lv_goto (tgt := 78) hx hb dX7_fitsSights_65 (by decide) ?_
              exact J78 _ _ h _ _ hW _ (lv_sub hl [1, 3] rfl)
  have J25 : ∀ (s0 : Int32) (σ : Hp), t_X7_fitsSights_25 N s0 σ = some (r, σ') → ∀ (H : Heap) (locs : List Loc), Wd D cy 27 shM ad A s.heap σ H locs → ∀ ls : Array Slot, lv_has ls 4 [(0, .ref (ad 0))] → Gi p l e us_X7_fitsSights ({ frames := 3, cells := 0, slots := 0, locals := 67 } : Room) s m [.ref (ad 0)] below meth c D cy 27 shM ad A r σ' H locs (F0 m 25 ls [.int s0]) := by
    intro s0 σ h H locs hW ls hl
    unfold t_X7_fitsSights_25 at h
    refine lv_istore_n (lv' := [(1, .int s0), (0, .ref (ad 0))]) hx hb dX7_fitsSights_25 rfl hl (by decide) rfl (fun ls hln => ?_)
    replace hl := hln
    clear hln
    refine lv_iconst (v := 0) hx hb dX7_fitsSights_26 (by decide) ?_
    refine lv_istore_n (lv' := [(2, .int 0), (1, .int s0), (0, .ref (ad 0))]) hx hb dX7_fitsSights_27 rfl hl (by decide) rfl (fun ls hln => ?_)
    replace hl := hln
    clear hln
    exact L28 _ _ _ _ h _ _ hW _ (lv_sub hl [2, 1, 0] rfl)
  refine lv_aload_n hx hb dX7_fitsSights_0 rfl (lv_at hl 0 rfl) ?_
  refine r_geti hC hW 14 (Nat.le_of_ble_eq_true rfl) rfl rfl rfl (by decide) inUX7 (hts _ wd_343) rfl dX7_fitsSights_1 ?_
  refine lv_if_ne (tgt := 9) hx hb dX7_fitsSights_4 (by decide) (fun cq => ?_) (fun cq => ?_)
  · replace h := tn cq h
    refine lv_aload_n hx hb dX7_fitsSights_9 rfl (lv_at hl 0 rfl) ?_
    replace h := bd h
    obtain ⟨σ4, hc, h⟩ := h
    refine r_callv hW (va_runV (As := []) (rest := []) hC.1 (c_X7_goWeek l D cy ad A N _ _ hc) (cwV 0 hts (gdV wd_351 wd_352 wd_353 wd_300 wd_350) rfl rfl rfl (by decide +kernel) ⟨Nat.le_of_ble_eq_true rfl, Nat.le_of_ble_eq_true rfl⟩) (r_preV hC hW (Nat.le_of_ble_eq_true rfl) rfl rfl) rfl rfl hl.1 rfl (lv_room (Nat.le_of_ble_eq_true rfl)) dX7_fitsSights_10 ⟨Nat.zero_le _, Nat.zero_le _⟩) (fun H locs hWn => ?_)
    replace hW := hWn
    clear hWn hc
    refine lv_aload_n hx hb dX7_fitsSights_13 rfl (lv_at hl 0 rfl) ?_
    refine r_geti hC hW 26 (Nat.le_of_ble_eq_true rfl) rfl rfl rfl (by decide) inUX7 (hts _ wd_338) rfl dX7_fitsSights_14 ?_
    refine lv_if_ge (tgt := 24) hx hb dX7_fitsSights_17 (by decide) (fun cq => ?_) (fun cq => ?_)
    · replace h := tp cq h
      refine lv_iconst (v := 0) hx hb dX7_fitsSights_24 (by decide) ?_
      exact J25 _ _ h _ _ hW _ (lv_sub hl [0] rfl)
    · replace h := tn cq h
      refine lv_iconst (v := 1) hx hb dX7_fitsSights_20 (by decide) ?_
      refine lv_goto (tgt := 25) hx hb dX7_fitsSights_21 (by decide) ?_
      exact J25 _ _ h _ _ hW _ (lv_sub hl [0] rfl)
  · replace h := tp cq h
    refine lv_iconst (v := 1) hx hb dX7_fitsSights_7 (by decide) ?_
    exact r_zretW (Or.inr rfl) hC hr hlocks h hW dX7_fitsSights_8
