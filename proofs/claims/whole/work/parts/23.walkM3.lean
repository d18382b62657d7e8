set_option maxHeartbeats 4000000 in
set_option maxRecDepth 100000 in
theorem c_X7_findStop (l : Launch) (D : va_G) (cy : ClassId × ClassId) (ad : Nat → Nat) (A : Nat → Prop) (N : Nat) (σ : Hp) (σ' : Hp) (h : t_X7_findStop N σ = some σ') : Cv l yX7_findStop us_X7_findStop ({ frames := 0, cells := 0, slots := 0, locals := 0 } : Room) D cy 27 shM ad A [.ref (ad 0)] σ σ' := by
  unfold t_X7_findStop at h
  refine Met.ofW (cc := cX7_findStop) (maxL := 4) (ret := none) (by decide) rfl ?_
  intro p e s m args below meth c s₁ B hml hv
  obtain ⟨rfl, hP, hK, hD, hA, hN⟩ := hv
  have hx := B.exec
  have hb := B.bytes
  have hr := B.returns
  have hlocks := B.notSynchronized
  have hts : ∀ w ∈ wsU, w.before _ s = true := fun w h => atoms_spec (ws := us_X7_findStop) B.pre w (List.mem_cons_of_mem _ h)
  have hown : s.vm.findClass RX7 = some m.cls := findClass_of_methodNamed B.named
  have hC : Cx p m c cX7_findStop 4 s _ wsU RX7 D cy := ⟨⟨hx, hb, hml, hown, hts⟩, hK, hN⟩
  have hW : Wd D cy 27 shM ad A s.heap σ s.heap [] := ⟨hP, hD, va_S.rf, hA⟩
  have hl := lv_entry ([.ref (ad 0)]) (n := 4) (Nat.le_of_ble_eq_true rfl)
  rw [lg_entry_eq]
  generalize (lg_sl ([.ref (ad 0)]) ++ List.replicate (4 - (lg_sl ([.ref (ad 0)])).length) Slot.unset).toArray = ls at hl ⊢
  have hl : lv_has ls 4 [(0, .ref (ad 0))] := hl
  have L13 : ∀ (f : Nat) (v1 : Int32) (σ : Hp), t_X7_findStop_13 N f v1 σ = some σ' → ∀ (H : Heap) (locs : List Loc), Wd D cy 27 shM ad A s.heap σ H locs → ∀ ls : Array Slot, lv_has ls 4 [(0, .ref (ad 0)), (1, .int v1)] → Gv p l e us_X7_findStop ({ frames := 0, cells := 0, slots := 0, locals := 0 } : Room) s m [.ref (ad 0)] below meth c D cy 27 shM ad A σ' H locs (F0 m 13 ls []) := by
    intro f
    unfold t_X7_findStop_13
    refine loopG_ind (fun (T : Int32 → Hp → Option Hp) => ∀ (v1 : Int32) (σ : Hp), T v1 σ = some σ' → ∀ (H : Heap) (locs : List Loc), Wd D cy 27 shM ad A s.heap σ H locs → ∀ ls : Array Slot, lv_has ls 4 [(0, .ref (ad 0)), (1, .int v1)] → Gv p l e us_X7_findStop ({ frames := 0, cells := 0, slots := 0, locals := 0 } : Room) s m [.ref (ad 0)] below meth c D cy 27 shM ad A σ' H locs (F0 m 13 ls [])) ?_ ?_ f
    · intro v1 σ h; exact absurd h (by simp)
    · intro k13 ih13
      have J111 : ∀ (v1 : Int32) (s1 : Int32) (σ : Hp), t_X7_findStop_111 N k13 v1 s1 σ = some σ' → ∀ (H : Heap) (locs : List Loc), Wd D cy 27 shM ad A s.heap σ H locs → ∀ ls : Array Slot, lv_has ls 4 [(0, .ref (ad 0)), (1, .int v1)] → Gv p l e us_X7_findStop ({ frames := 0, cells := 0, slots := 0, locals := 0 } : Room) s m [.ref (ad 0)] below meth c D cy 27 shM ad A σ' H locs (F0 m 111 ls [.int s1, .ref (ad 0)]) := by
        intro v1 s1 σ h H locs hW ls hl
        unfold t_X7_findStop_111 at h
        refine r_put hC hW 30 (Nat.le_of_ble_eq_true rfl) rfl rfl rfl (by decide) inUX7 tyX7 tyX7_ok nmX7 (hts _ wd_400) rfl rfl ⟨rfl, rfl⟩ dX7_findStop_111 (fun σ1 eσ1 H locs hWn => ?_)
        replace h := bn eσ1 h
        replace hW := hWn
        clear hWn eσ1
        replace h := bx h
        obtain ⟨x2, ex2, h⟩ := h
        refine lv_iinc (v := x2) (lv' := [(1, .int x2), (0, .ref (ad 0))]) hx hb dX7_findStop_114 hl (k := 1) rfl (by rw [ex2]; rfl) (by decide) rfl (fun ls hln => ?_)
        replace hl := hln
        clear hln ex2
        refine lv_goto (tgt := 13) hx hb dX7_findStop_117 (by decide) ?_
        exact ih13 _ _ h _ _ hW _ (lv_sub hl [1, 0] rfl)
      have J107 : ∀ (v1 : Int32) (σ : Hp), t_X7_findStop_107 N k13 v1 σ = some σ' → ∀ (H : Heap) (locs : List Loc), Wd D cy 27 shM ad A s.heap σ H locs → ∀ ls : Array Slot, lv_has ls 4 [(0, .ref (ad 0)), (1, .int v1)] → Gv p l e us_X7_findStop ({ frames := 0, cells := 0, slots := 0, locals := 0 } : Room) s m [.ref (ad 0)] below meth c D cy 27 shM ad A σ' H locs (F0 m 107 ls [.ref (ad 0)]) := by
        intro v1 σ h H locs hW ls hl
        unfold t_X7_findStop_107 at h
        refine lv_aload_n hx hb dX7_findStop_107 rfl (lv_at hl 0 rfl) ?_
        refine r_geti hC hW 30 (Nat.le_of_ble_eq_true rfl) rfl rfl rfl (by decide) inUX7 (hts _ wd_400) rfl dX7_findStop_108 ?_
        exact J111 _ _ _ h _ _ hW _ (lv_sub hl [0, 1] rfl)
      have J81 : ∀ (v1 : Int32) (v2 : Int32) (s1 : Int32) (s2 : Int32) (σ : Hp), t_X7_findStop_81 N k13 v1 v2 s1 s2 σ = some σ' → ∀ (H : Heap) (locs : List Loc), Wd D cy 27 shM ad A s.heap σ H locs → ∀ ls : Array Slot, lv_has ls 4 [(0, .ref (ad 0)), (1, .int v1), (2, .int v2)] → Gv p l e us_X7_findStop ({ frames := 0, cells := 0, slots := 0, locals := 0 } : Room) s m [.ref (ad 0)] below meth c D cy 27 shM ad A σ' H locs (F0 m 81 ls [.int s2, .int s1, .ref (ad 0)]) := by
        intro v1 v2 s1 s2 σ h H locs hW ls hl
        unfold t_X7_findStop_81 at h
        refine lv_ior hx hb dX7_findStop_81 ?_
        refine r_put hC hW 31 (Nat.le_of_ble_eq_true rfl) rfl rfl rfl (by decide) inUX7 tyX7 tyX7_ok nmX7 (hts _ wd_401) rfl rfl ⟨rfl, rfl⟩ dX7_findStop_82 (fun σ3 eσ3 H locs hWn => ?_)
        replace h := bn eσ3 h
        replace hW := hWn
        clear hWn eσ3
        refine lv_aload_n hx hb dX7_findStop_85 rfl (lv_at hl 0 rfl) ?_
        refine lv_aload_n hx hb dX7_findStop_86 rfl (lv_at hl 0 rfl) ?_
        refine r_geti hC hW 30 (Nat.le_of_ble_eq_true rfl) rfl rfl rfl (by decide) inUX7 (hts _ wd_400) rfl dX7_findStop_87 ?_
        refine lv_if_ge (tgt := 107) hx hb dX7_findStop_90 (by decide) (fun cq => ?_) (fun cq => ?_)
        · replace h := tp cq h
          exact J107 _ _ h _ _ hW _ (lv_sub hl [0, 1] rfl)
        · replace h := tn cq h
          refine lv_aload_n hx hb dX7_findStop_93 rfl (lv_at hl 0 rfl) ?_
          refine r_getr hC hW 5 (Nat.le_of_ble_eq_true rfl) rfl rfl rfl (by decide) inUX7 (hts _ wd_295) rfl dX7_findStop_94 ?_
          refine lv_iload_n hx hb dX7_findStop_97 rfl (lv_at hl 2 rfl) ?_
          replace h := og h
          obtain ⟨hi, h⟩ := h
          refine r_ald hC hW (Nat.le_of_ble_eq_true rfl) rfl hi dX7_findStop_98 ?_
          refine lv_iconst (v := 1) hx hb dX7_findStop_99 (by decide) ?_
          refine lv_icmp_eq (tgt := 107) hx hb dX7_findStop_100 (by decide) (fun cq => ?_) (fun cq => ?_)
          · replace h := tp cq h
            exact J107 _ _ h _ _ hW _ (lv_sub hl [0, 1] rfl)
          · replace h := tn cq h
            refine lv_iload_n hx hb dX7_findStop_103 rfl (lv_at hl 2 rfl) ?_
            refine lv_goto (tgt := 111) hx hb dX7_findStop_104 (by decide) ?_
            exact J111 _ _ _ h _ _ hW _ (lv_sub hl [0, 1] rfl)
      have J64 : ∀ (v1 : Int32) (v2 : Int32) (s0 : Int32) (σ : Hp), t_X7_findStop_64 N k13 v1 v2 s0 σ = some σ' → ∀ (H : Heap) (locs : List Loc), Wd D cy 27 shM ad A s.heap σ H locs → ∀ ls : Array Slot, lv_has ls 4 [(0, .ref (ad 0)), (1, .int v1), (2, .int v2)] → Gv p l e us_X7_findStop ({ frames := 0, cells := 0, slots := 0, locals := 0 } : Room) s m [.ref (ad 0)] below meth c D cy 27 shM ad A σ' H locs (F0 m 64 ls [.int s0]) := by
        intro v1 v2 s0 σ h H locs hW ls hl
        unfold t_X7_findStop_64 at h
        refine lv_istore_n (lv' := [(3, .int s0), (0, .ref (ad 0)), (1, .int v1), (2, .int v2)]) hx hb dX7_findStop_64 rfl hl (by decide) rfl (fun ls hln => ?_)
        replace hl := hln
        clear hln
        refine lv_aload_n hx hb dX7_findStop_65 rfl (lv_at hl 1 rfl) ?_
        refine lv_dup hx hb dX7_findStop_66 rfl ?_
        refine r_geti hC hW 31 (Nat.le_of_ble_eq_true rfl) rfl rfl rfl (by decide) inUX7 (hts _ wd_401) rfl dX7_findStop_67 ?_
        refine lv_iload_n hx hb dX7_findStop_70 rfl (lv_at hl 0 rfl) ?_
        refine lv_if_eq (tgt := 80) hx hb dX7_findStop_71 (by decide) (fun cq => ?_) (fun cq => ?_)
        · replace h := tp cq h
          refine lv_iconst (v := 0) hx hb dX7_findStop_80 (by decide) ?_
          exact J81 _ _ _ _ _ h _ _ hW _ (lv_sub hl [1, 2, 3] rfl)
        · replace h := tn cq h
          refine lv_iconst (v := 1) hx hb dX7_findStop_74 (by decide) ?_
          refine lv_iload_n hx hb dX7_findStop_75 rfl (lv_at hl 3 rfl) ?_
          refine lv_ishl hx hb dX7_findStop_76 ?_
          refine lv_goto (tgt := 81) hx hb dX7_findStop_77 (by decide) ?_
          exact J81 _ _ _ _ _ h _ _ hW _ (lv_sub hl [1, 2, 3] rfl)
      have J63 : ∀ (v1 : Int32) (v2 : Int32) (σ : Hp), t_X7_findStop_63 N k13 v1 v2 σ = some σ' → ∀ (H : Heap) (locs : List Loc), Wd D cy 27 shM ad A s.heap σ H locs → ∀ ls : Array Slot, lv_has ls 4 [(0, .ref (ad 0)), (1, .int v1), (2, .int v2)] → Gv p l e us_X7_findStop ({ frames := 0, cells := 0, slots := 0, locals := 0 } : Room) s m [.ref (ad 0)] below meth c D cy 27 shM ad A σ' H locs (F0 m 63 ls []) := by
        intro v1 v2 σ h H locs hW ls hl
        unfold t_X7_findStop_63 at h
        refine lv_iconst (v := 0) hx hb dX7_findStop_63 (by decide) ?_
        exact J64 _ _ _ _ h _ _ hW _ (lv_sub hl [0, 1, 2] rfl)
      intro v1 σ h H locs hW ls hl
      refine lv_iload_n hx hb dX7_findStop_13 rfl (lv_at hl 1 rfl) ?_
      refine lv_aload_n hx hb dX7_findStop_14 rfl (lv_at hl 0 rfl) ?_
      refine r_geti hC hW 0 (Nat.le_of_ble_eq_true rfl) rfl rfl rfl (by decide) inUX7 (hts _ wd_294) rfl dX7_findStop_15 ?_
      refine lv_icmp_ge (tgt := 120) hx hb dX7_findStop_18 (by decide) (fun cq => ?_) (fun cq => ?_)
      · replace h := tp cq h
        exact r_vretW hC hr hlocks h hW dX7_findStop_120
      · replace h := tn cq h
        refine lv_aload_n hx hb dX7_findStop_21 rfl (lv_at hl 0 rfl) ?_
        refine r_getr hC hW 22 (Nat.le_of_ble_eq_true rfl) rfl rfl rfl (by decide) inUX7 (hts _ wd_324) rfl dX7_findStop_22 ?_
        refine lv_iload_n hx hb dX7_findStop_25 rfl (lv_at hl 1 rfl) ?_
        replace h := og h
        obtain ⟨hi, h⟩ := h
        refine r_ald hC hW (Nat.le_of_ble_eq_true rfl) rfl hi dX7_findStop_26 ?_
        replace h := bx h
        obtain ⟨x4, ex4, h⟩ := h
        refine tope ex4 ?_
        clear ex4
        refine lv_istore_n (lv' := [(2, .int x4), (0, .ref (ad 0)), (1, .int v1)]) hx hb dX7_findStop_27 rfl hl (by decide) rfl (fun ls hln => ?_)
        replace hl := hln
        clear hln
        refine lv_aload_n hx hb dX7_findStop_28 rfl (lv_at hl 1 rfl) ?_
        refine r_geti hC hW 30 (Nat.le_of_ble_eq_true rfl) rfl rfl rfl (by decide) inUX7 (hts _ wd_400) rfl dX7_findStop_29 ?_
        refine lv_if_lt (tgt := 63) hx hb dX7_findStop_32 (by decide) (fun cq => ?_) (fun cq => ?_)
        · replace h := tp cq h
          exact J63 _ _ _ h _ _ hW _ (lv_sub hl [1, 2, 0] rfl)
        · replace h := tn cq h
          refine lv_aload_n hx hb dX7_findStop_35 rfl (lv_at hl 1 rfl) ?_
          refine r_getr hC hW 5 (Nat.le_of_ble_eq_true rfl) rfl rfl rfl (by decide) inUX7 (hts _ wd_295) rfl dX7_findStop_36 ?_
          refine lv_iload_n hx hb dX7_findStop_39 rfl (lv_at hl 0 rfl) ?_
          replace h := og h
          obtain ⟨hi, h⟩ := h
          refine r_ald hC hW (Nat.le_of_ble_eq_true rfl) rfl hi dX7_findStop_40 ?_
          refine lv_if_ne (tgt := 63) hx hb dX7_findStop_41 (by decide) (fun cq => ?_) (fun cq => ?_)
          · replace h := tn cq h
            exact J63 _ _ _ h _ _ hW _ (lv_sub hl [1, 2, 0] rfl)
          · replace h := tp cq h
            refine lv_aload_n hx hb dX7_findStop_44 rfl (lv_at hl 1 rfl) ?_
            refine r_getr hC hW 2 (Nat.le_of_ble_eq_true rfl) rfl rfl rfl (by decide) inUX7 (hts _ wd_317) rfl dX7_findStop_45 ?_
            refine lv_iload_n hx hb dX7_findStop_48 rfl (lv_at hl 0 rfl) ?_
            replace h := og h
            obtain ⟨hi, h⟩ := h
            refine r_ald hC hW (Nat.le_of_ble_eq_true rfl) rfl hi dX7_findStop_49 ?_
            refine lv_aload_n hx hb dX7_findStop_50 rfl (lv_at hl 1 rfl) ?_
            refine r_getr hC hW 1 (Nat.le_of_ble_eq_true rfl) rfl rfl rfl (by decide) inUX7 (hts _ wd_325) rfl dX7_findStop_51 ?_
            refine lv_iload_n hx hb dX7_findStop_54 rfl (lv_at hl 0 rfl) ?_
            replace h := og h
            obtain ⟨hi, h⟩ := h
            refine r_ald hC hW (Nat.le_of_ble_eq_true rfl) rfl hi dX7_findStop_55 ?_
            refine lv_icmp_lt (tgt := 63) hx hb dX7_findStop_56 (by decide) (fun cq => ?_) (fun cq => ?_)
            · replace h := tp cq h
              exact J63 _ _ _ h _ _ hW _ (lv_sub hl [1, 2, 0] rfl)
            · replace h := tn cq h
              refine lv_iconst (v := 1) hx hb dX7_findStop_59 (by decide) ?_
              refine lv_goto (tgt := 64) hx hb dX7_findStop_60 (by decide) ?_
              exact J64 _ _ _ _ h _ _ hW _ (lv_sub hl [1, 2, 0] rfl)
  refine lv_aload_n hx hb dX7_findStop_0 rfl (lv_at hl 0 rfl) ?_
  refine lv_bipush (v := (-6)) hx hb dX7_findStop_1 (by decide) ?_
  refine r_put hC hW 30 (Nat.le_of_ble_eq_true rfl) rfl rfl rfl (by decide) inUX7 tyX7 tyX7_ok nmX7 (hts _ wd_400) rfl rfl ⟨rfl, rfl⟩ dX7_findStop_3 (fun σ5 eσ5 H locs hWn => ?_)
  replace h := bn eσ5 h
  replace hW := hWn
  clear hWn eσ5
  refine lv_aload_n hx hb dX7_findStop_6 rfl (lv_at hl 0 rfl) ?_
  refine lv_iconst (v := 0) hx hb dX7_findStop_7 (by decide) ?_
  refine r_put hC hW 31 (Nat.le_of_ble_eq_true rfl) rfl rfl rfl (by decide) inUX7 tyX7 tyX7_ok nmX7 (hts _ wd_401) rfl rfl ⟨rfl, rfl⟩ dX7_findStop_8 (fun σ6 eσ6 H locs hWn => ?_)
  replace h := bn eσ6 h
  replace hW := hWn
  clear hWn eσ6
  refine lv_iconst (v := 0) hx hb dX7_findStop_11 (by decide) ?_
  refine lv_istore_n (lv' := [(1, .int 0), (0, .ref (ad 0))]) hx hb dX7_findStop_12 rfl hl (by decide) rfl (fun ls hln => ?_)
  replace hl := hln
  clear hln
  exact L13 _ _ _ h _ _ hW _ (lv_sub hl [1, 0] rfl)
set_option maxHeartbeats 4000000 in
set_option maxRecDepth 100000 in
theorem c_X7_refusal (l : Launch) (D : va_G) (cy : ClassId × ClassId) (ad : Nat → Nat) (A : Nat → Prop) (N : Nat) (σ : Hp) (r : Int32) (σ' : Hp) (h : t_X7_refusal N σ = some (r, σ')) : Ci l yX7_refusal us_X7_refusal ({ frames := 3, cells := 0, slots := 0, locals := 72 } : Room) D cy 27 shM ad A [.ref (ad 0)] σ r σ' := by
  unfold t_X7_refusal at h
  refine Met.ofW (cc := cX7_refusal) (maxL := 2) (ret := (some .int)) (by decide) rfl ?_
  intro p e s m args below meth c s₁ B hml hv
  obtain ⟨rfl, hP, hK, hD, hA, hN⟩ := hv
  have hx := B.exec
  have hb := B.bytes
  have hr := B.returns
  have hlocks := B.notSynchronized
  have hts : ∀ w ∈ wsU, w.before _ s = true := fun w h => atoms_spec (ws := us_X7_refusal) B.pre w (List.mem_cons_of_mem _ h)
  have hown : s.vm.findClass RX7 = some m.cls := findClass_of_methodNamed B.named
  have hC : Cx p m c cX7_refusal 2 s _ wsU RX7 D cy := ⟨⟨hx, hb, hml, hown, hts⟩, hK, hN⟩
  have hW : Wd D cy 27 shM ad A s.heap σ s.heap [] := ⟨hP, hD, va_S.rf, hA⟩
  have hl := lv_entry ([.ref (ad 0)]) (n := 2) (Nat.le_of_ble_eq_true rfl)
  rw [lg_entry_eq]
  generalize (lg_sl ([.ref (ad 0)]) ++ List.replicate (2 - (lg_sl ([.ref (ad 0)])).length) Slot.unset).toArray = ls at hl ⊢
  have hl : lv_has ls 2 [(0, .ref (ad 0))] := hl
  have L24 : ∀ (f : Nat) (v1 : Int32) (σ : Hp), t_X7_refusal_24 N f v1 σ = some (r, σ') → ∀ (H : Heap) (locs : List Loc), Wd D cy 27 shM ad A s.heap σ H locs → ∀ ls : Array Slot, lv_has ls 2 [(0, .ref (ad 0)), (1, .int v1)] → Gi p l e us_X7_refusal ({ frames := 3, cells := 0, slots := 0, locals := 72 } : Room) s m [.ref (ad 0)] below meth c D cy 27 shM ad A r σ' H locs (F0 m 24 ls []) := by
    intro f
    unfold t_X7_refusal_24
    refine loopG_ind (fun (T : Int32 → Hp → Option (Int32 × Hp)) => ∀ (v1 : Int32) (σ : Hp), T v1 σ = some (r, σ') → ∀ (H : Heap) (locs : List Loc), Wd D cy 27 shM ad A s.heap σ H locs → ∀ ls : Array Slot, lv_has ls 2 [(0, .ref (ad 0)), (1, .int v1)] → Gi p l e us_X7_refusal ({ frames := 3, cells := 0, slots := 0, locals := 72 } : Room) s m [.ref (ad 0)] below meth c D cy 27 shM ad A r σ' H locs (F0 m 24 ls [])) ?_ ?_ f
    · intro v1 σ h; exact absurd h (by simp)
    · intro k24 ih24
      intro v1 σ h H locs hW ls hl
      refine lv_iload_n hx hb dX7_refusal_24 rfl (lv_at hl 1 rfl) ?_
      refine lv_bipush (v := 21) hx hb dX7_refusal_25 (by decide) ?_
      refine lv_icmp_ge (tgt := 52) hx hb dX7_refusal_27 (by decide) (fun cq => ?_) (fun cq => ?_)
      · replace h := tp cq h
        refine lv_aload_n hx hb dX7_refusal_52 rfl (lv_at hl 0 rfl) ?_
        replace h := bd h
        obtain ⟨σ1, hc, h⟩ := h
        refine r_callv hW (va_runV (As := []) (rest := []) hC.1 (c_X7_findStop l D cy ad A N _ _ hc) (cwV 0 hts (gdV wd_403 wd_404 wd_405 wd_300 wd_402) rfl rfl rfl (by decide +kernel) ⟨Nat.le_of_ble_eq_true rfl, Nat.le_of_ble_eq_true rfl⟩) (r_preV hC hW (Nat.le_of_ble_eq_true rfl) rfl rfl) rfl rfl hl.1 rfl (lv_room (Nat.le_of_ble_eq_true rfl)) dX7_refusal_53 ⟨Nat.zero_le _, Nat.zero_le _⟩) (fun H locs hWn => ?_)
        replace hW := hWn
        clear hWn hc
        refine lv_aload_n hx hb dX7_refusal_56 rfl (lv_at hl 0 rfl) ?_
        replace h := bd h
        obtain ⟨σ2, hc, h⟩ := h
        refine r_callv hW (va_runV (As := []) (rest := []) hC.1 (c_X7_putBack l D cy ad A N _ _ hc) (cwV 0 hts (gdV wd_345 wd_346 wd_347 wd_300 wd_344) rfl rfl rfl (by decide +kernel) ⟨Nat.le_of_ble_eq_true rfl, Nat.le_of_ble_eq_true rfl⟩) (r_preV hC hW (Nat.le_of_ble_eq_true rfl) rfl rfl) rfl rfl hl.1 rfl (lv_room (Nat.le_of_ble_eq_true rfl)) dX7_refusal_57 ⟨Nat.zero_le _, Nat.zero_le _⟩) (fun H locs hWn => ?_)
        replace hW := hWn
        clear hWn hc
        refine lv_aload_n hx hb dX7_refusal_60 rfl (lv_at hl 0 rfl) ?_
        refine r_geti hC hW 26 (Nat.le_of_ble_eq_true rfl) rfl rfl rfl (by decide) inUX7 (hts _ wd_338) rfl dX7_refusal_61 ?_
        refine lv_if_lt (tgt := 72) hx hb dX7_refusal_64 (by decide) (fun cq => ?_) (fun cq => ?_)
        · replace h := tp cq h
          refine lv_bipush (v := (-6)) hx hb dX7_refusal_72 (by decide) ?_
          exact r_iretW hC hr hlocks h hW dX7_refusal_74
        · replace h := tn cq h
          refine lv_bipush (v := (-3)) hx hb dX7_refusal_67 (by decide) ?_
          refine lv_goto (tgt := 74) hx hb dX7_refusal_69 (by decide) ?_
          exact r_iretW hC hr hlocks h hW dX7_refusal_74
      · replace h := tn cq h
        refine lv_aload_n hx hb dX7_refusal_30 rfl (lv_at hl 0 rfl) ?_
        refine r_getr hC hW 29 (Nat.le_of_ble_eq_true rfl) rfl rfl rfl (by decide) inUX7 (hts _ wd_406) rfl dX7_refusal_31 ?_
        refine lv_iload_n hx hb dX7_refusal_34 rfl (lv_at hl 1 rfl) ?_
        refine lv_aload_n hx hb dX7_refusal_35 rfl (lv_at hl 0 rfl) ?_
        refine lv_iload_n hx hb dX7_refusal_36 rfl (lv_at hl 1 rfl) ?_
        refine lv_iconst (v := 3) hx hb dX7_refusal_37 (by decide) ?_
        refine lv_idiv hx hb dX7_refusal_38 (by decide) ?_
        refine lv_iload_n hx hb dX7_refusal_39 rfl (lv_at hl 1 rfl) ?_
        refine lv_iconst (v := 3) hx hb dX7_refusal_40 (by decide) ?_
        refine lv_irem hx hb dX7_refusal_41 (by decide) ?_
        replace h := bd h
        obtain ⟨r3, hc, h⟩ := h
        refine r_calli hW (va_runV (As := [.int (v1 / 3), .int (v1 - v1 / 3 * 3)]) (rest := [.int v1, .ref (ad 19)]) hC.1 (c_X7_stateOf l D cy ad A _ _ _ _ hc) (cwV 2 hts (gdV wd_408 wd_409 wd_410 wd_300 wd_407) rfl rfl rfl (by decide +kernel) ⟨Nat.le_of_ble_eq_true rfl, Nat.le_of_ble_eq_true rfl⟩) (r_preV hC hW (Nat.le_of_ble_eq_true rfl) rfl rfl) rfl rfl hl.1 rfl (lv_room (Nat.le_of_ble_eq_true rfl)) dX7_refusal_42 ⟨Nat.zero_le _, Nat.zero_le _⟩) (fun H locs hWn => ?_)
        replace hW := hWn
        clear hWn hc
        replace h := og h
        obtain ⟨hi, h⟩ := h
        refine r_ast hC hW (Nat.le_of_ble_eq_true rfl) rfl hi dX7_refusal_45 (fun σ4 eσ4 H locs hWn => ?_)
        replace h := bn eσ4 h
        replace hW := hWn
        clear hWn eσ4
        replace h := bx h
        obtain ⟨x5, ex5, h⟩ := h
        refine lv_iinc (v := x5) (lv' := [(1, .int x5), (0, .ref (ad 0))]) hx hb dX7_refusal_46 hl (k := 1) rfl (by rw [ex5]; rfl) (by decide) rfl (fun ls hln => ?_)
        replace hl := hln
        clear hln ex5
        refine lv_goto (tgt := 24) hx hb dX7_refusal_49 (by decide) ?_
        exact ih24 _ _ h _ _ hW _ (lv_sub hl [1, 0] rfl)
  refine lv_aload_n hx hb dX7_refusal_0 rfl (lv_at hl 0 rfl) ?_
  replace h := ob h
  obtain ⟨r6, σ7, hc, h⟩ := h
  refine r_calli hW (va_runV (As := []) (rest := []) hC.1 (c_X7_faultOfWeek l D cy ad A N _ _ _ hc) (cwV 0 hts (gdV wd_387 wd_388 wd_389 wd_300 wd_386) rfl rfl rfl (by decide +kernel) ⟨Nat.le_of_ble_eq_true rfl, Nat.le_of_ble_eq_true rfl⟩) (r_preV hC hW (Nat.le_of_ble_eq_true rfl) rfl rfl) rfl rfl hl.1 rfl (lv_room (Nat.le_of_ble_eq_true rfl)) dX7_refusal_1 ⟨Nat.zero_le _, Nat.zero_le _⟩) (fun H locs hWn => ?_)
  replace hW := hWn
  clear hWn hc
  refine lv_if_lt (tgt := 10) hx hb dX7_refusal_4 (by decide) (fun cq => ?_) (fun cq => ?_)
  · replace h := tp cq h
    refine lv_aload_n hx hb dX7_refusal_10 rfl (lv_at hl 0 rfl) ?_
    replace h := bd h
    obtain ⟨σ8, hc, h⟩ := h
    refine r_callv hW (va_runV (As := []) (rest := []) hC.1 (c_X7_layOrder l D cy ad A N _ _ hc) (cwV 0 hts (gdV wd_412 wd_413 wd_414 wd_300 wd_411) rfl rfl rfl (by decide +kernel) ⟨Nat.le_of_ble_eq_true rfl, Nat.le_of_ble_eq_true rfl⟩) (r_preV hC hW (Nat.le_of_ble_eq_true rfl) rfl rfl) rfl rfl hl.1 rfl (lv_room (Nat.le_of_ble_eq_true rfl)) dX7_refusal_11 ⟨Nat.zero_le _, Nat.zero_le _⟩) (fun H locs hWn => ?_)
    replace hW := hWn
    clear hWn hc
    refine lv_aload_n hx hb dX7_refusal_14 rfl (lv_at hl 0 rfl) ?_
    replace h := bd h
    obtain ⟨σ9, hc, h⟩ := h
    refine r_callv hW (va_runV (As := []) (rest := []) hC.1 (c_X7_keepNow l D cy ad A N _ _ hc) (cwV 0 hts (gdV wd_379 wd_380 wd_381 wd_300 wd_378) rfl rfl rfl (by decide +kernel) ⟨Nat.le_of_ble_eq_true rfl, Nat.le_of_ble_eq_true rfl⟩) (r_preV hC hW (Nat.le_of_ble_eq_true rfl) rfl rfl) rfl rfl hl.1 rfl (lv_room (Nat.le_of_ble_eq_true rfl)) dX7_refusal_15 ⟨Nat.zero_le _, Nat.zero_le _⟩) (fun H locs hWn => ?_)
    replace hW := hWn
    clear hWn hc
    refine lv_aload_n hx hb dX7_refusal_18 rfl (lv_at hl 0 rfl) ?_
    replace h := bd h
    obtain ⟨σ10, hc, h⟩ := h
    refine r_callv hW (va_runV (As := []) (rest := []) hC.1 (c_X7_goWeek l D cy ad A N _ _ hc) (cwV 0 hts (gdV wd_351 wd_352 wd_353 wd_300 wd_350) rfl rfl rfl (by decide +kernel) ⟨Nat.le_of_ble_eq_true rfl, Nat.le_of_ble_eq_true rfl⟩) (r_preV hC hW (Nat.le_of_ble_eq_true rfl) rfl rfl) rfl rfl hl.1 rfl (lv_room (Nat.le_of_ble_eq_true rfl)) dX7_refusal_19 ⟨Nat.zero_le _, Nat.zero_le _⟩) (fun H locs hWn => ?_)
    replace hW := hWn
    clear hWn hc
    refine lv_iconst (v := 0) hx hb dX7_refusal_22 (by decide) ?_
    refine lv_istore_n (lv' := [(1, .int 0), (0, .ref (ad 0))]) hx hb dX7_refusal_23 rfl hl (by decide) rfl (fun ls hln => ?_)
    replace hl := hln
    clear hln
    exact L24 _ _ _ h _ _ hW _ (lv_sub hl [1, 0] rfl)
  · replace h := tn cq h
    refine lv_bipush (v := (-5)) hx hb dX7_refusal_7 (by decide) ?_
    exact r_iretW hC hr hlocks h hW dX7_refusal_9
set_option maxHeartbeats 4000000 in
set_option maxRecDepth 100000 in
theorem c_X7_behind (l : Launch) (D : va_G) (cy : ClassId × ClassId) (ad : Nat → Nat) (A : Nat → Prop) (N : Nat) (p0 : Int32) (p1 : Int32) (σ : Hp) (r : Int32) (σ' : Hp) (h : t_X7_behind N p0 p1 σ = some (r, σ')) : Ci l yX7_behind us_X7_behind ({ frames := 4, cells := 0, slots := 0, locals := 93 } : Room) D cy 27 shM ad A [.ref (ad 0), .int p0, .int p1] σ r σ' := by
  unfold t_X7_behind at h
  refine Met.ofW (cc := cX7_behind) (maxL := 4) (ret := (some .int)) (by decide) rfl ?_
  intro p e s m args below meth c s₁ B hml hv
  obtain ⟨rfl, hP, hK, hD, hA, hN⟩ := hv
  have hx := B.exec
  have hb := B.bytes
  have hr := B.returns
  have hlocks := B.notSynchronized
  have hts : ∀ w ∈ wsU, w.before _ s = true := fun w h => atoms_spec (ws := us_X7_behind) B.pre w (List.mem_cons_of_mem _ h)
  have hown : s.vm.findClass RX7 = some m.cls := findClass_of_methodNamed B.named
  have hC : Cx p m c cX7_behind 4 s _ wsU RX7 D cy := ⟨⟨hx, hb, hml, hown, hts⟩, hK, hN⟩
  have hW : Wd D cy 27 shM ad A s.heap σ s.heap [] := ⟨hP, hD, va_S.rf, hA⟩
  have hl := lv_entry ([.ref (ad 0), .int p0, .int p1]) (n := 4) (Nat.le_of_ble_eq_true rfl)
  rw [lg_entry_eq]
  generalize (lg_sl ([.ref (ad 0), .int p0, .int p1]) ++ List.replicate (4 - (lg_sl ([.ref (ad 0), .int p0, .int p1])).length) Slot.unset).toArray = ls at hl ⊢
  have hl : lv_has ls 4 [(0, .ref (ad 0)), (1, .int p0), (2, .int p1)] := hl
  refine lv_aload_n hx hb dX7_behind_0 rfl (lv_at hl 0 rfl) ?_
  refine lv_iload_n hx hb dX7_behind_1 rfl (lv_at hl 1 rfl) ?_
  replace h := bd h
  obtain ⟨r1, hc, h⟩ := h
  refine r_calli hW (va_runV (As := [.int p0]) (rest := []) hC.1 (c_X7_isEgg l D cy ad A _ _ _ hc) (cwV 1 hts (gdV wd_307 wd_308 wd_309 wd_300 wd_306) rfl rfl rfl (by decide +kernel) ⟨Nat.le_of_ble_eq_true rfl, Nat.le_of_ble_eq_true rfl⟩) (r_preV hC hW (Nat.le_of_ble_eq_true rfl) rfl rfl) rfl rfl hl.1 rfl (lv_room (Nat.le_of_ble_eq_true rfl)) dX7_behind_2 ⟨Nat.zero_le _, Nat.zero_le _⟩) (fun H locs hWn => ?_)
  replace hW := hWn
  clear hWn hc
  refine lv_if_ne (tgt := 10) hx hb dX7_behind_5 (by decide) (fun cq => ?_) (fun cq => ?_)
  · replace h := tn cq h
    refine lv_iload_n hx hb dX7_behind_10 rfl (lv_at hl 2 rfl) ?_
    refine lv_i2l hx hb dX7_behind_11 rfl ?_
    refine lv_lconst (v := 0) hx hb dX7_behind_12 (by decide) ?_
    refine lv_ldc2 hx hb hown (hts _ wd_415) dX7_behind_13 ?_
    replace h := bd h
    obtain ⟨r2, hc, h⟩ := h
    refine r_calli hW (va_runS (As := [.long (p1.toInt64), .long 0, .long (2)]) (rest := []) hC.1 (c_X7_in l D cy ad A _ _ _ _ _ hc) (va_cwS 3 hts (gdS wd_298 wd_299 wd_300 wd_297) rfl rfl rfl (by decide +kernel) ⟨Nat.le_of_ble_eq_true rfl, Nat.le_of_ble_eq_true rfl⟩) (r_preS hC hW) rfl rfl hl.1 rfl (lv_room (Nat.le_of_ble_eq_true rfl)) dX7_behind_16 ⟨Nat.zero_le _, Nat.zero_le _⟩) (fun H locs hWn => ?_)
    replace hW := hWn
    clear hWn hc
    refine lv_if_ne (tgt := 25) hx hb dX7_behind_19 (by decide) (fun cq => ?_) (fun cq => ?_)
    · replace h := tn cq h
      refine lv_aload_n hx hb dX7_behind_25 rfl (lv_at hl 0 rfl) ?_
      replace h := ob h
      obtain ⟨r3, σ4, hc, h⟩ := h
      refine r_calli hW (va_runV (As := []) (rest := []) hC.1 (c_X7_refusal l D cy ad A N _ _ _ hc) (cwV 0 hts (gdV wd_417 wd_418 wd_419 wd_300 wd_416) rfl rfl rfl (by decide +kernel) ⟨Nat.le_of_ble_eq_true rfl, Nat.le_of_ble_eq_true rfl⟩) (r_preV hC hW (Nat.le_of_ble_eq_true rfl) rfl rfl) rfl rfl hl.1 rfl (lv_room (Nat.le_of_ble_eq_true rfl)) dX7_behind_26 ⟨Nat.zero_le _, Nat.zero_le _⟩) (fun H locs hWn => ?_)
      replace hW := hWn
      clear hWn hc
      refine lv_istore_n (lv' := [(3, .int r3), (0, .ref (ad 0)), (1, .int p0), (2, .int p1)]) hx hb dX7_behind_29 rfl hl (by decide) rfl (fun ls hln => ?_)
      replace hl := hln
      clear hln
      refine lv_iload_n hx hb dX7_behind_30 rfl (lv_at hl 0 rfl) ?_
      refine lv_bipush (v := (-6)) hx hb dX7_behind_31 (by decide) ?_
      refine lv_icmp_eq (tgt := 40) hx hb dX7_behind_33 (by decide) (fun cq => ?_) (fun cq => ?_)
      · replace h := tp cq h
        refine lv_aload_n hx hb dX7_behind_40 rfl (lv_at hl 1 rfl) ?_
        refine r_getr hC hW 29 (Nat.le_of_ble_eq_true rfl) rfl rfl rfl (by decide) inUX7 (hts _ wd_406) rfl dX7_behind_41 ?_
        refine lv_iconst (v := 3) hx hb dX7_behind_44 (by decide) ?_
        refine lv_iload_n hx hb dX7_behind_45 rfl (lv_at hl 2 rfl) ?_
        refine lv_imul hx hb dX7_behind_46 ?_
        refine lv_iload_n hx hb dX7_behind_47 rfl (lv_at hl 3 rfl) ?_
        refine lv_iadd hx hb dX7_behind_48 ?_
        replace h := og h
        obtain ⟨hi, h⟩ := h
        refine r_ald hC hW (Nat.le_of_ble_eq_true rfl) rfl hi dX7_behind_49 ?_
        exact r_iretW hC hr hlocks h hW dX7_behind_50
      · replace h := tn cq h
        refine lv_iload_n hx hb dX7_behind_36 rfl (lv_at hl 0 rfl) ?_
        refine lv_goto (tgt := 50) hx hb dX7_behind_37 (by decide) ?_
        exact r_iretW hC hr hlocks h hW dX7_behind_50
    · replace h := tp cq h
      refine lv_bipush (v := (-2)) hx hb dX7_behind_22 (by decide) ?_
      exact r_iretW hC hr hlocks h hW dX7_behind_24
  · replace h := tp cq h
    refine lv_iconst (v := (-1)) hx hb dX7_behind_8 (by decide) ?_
    exact r_iretW hC hr hlocks h hW dX7_behind_9
set_option maxHeartbeats 4000000 in
set_option maxRecDepth 100000 in
theorem c_X7_certain (l : Launch) (D : va_G) (cy : ClassId × ClassId) (ad : Nat → Nat) (A : Nat → Prop) (N : Nat) (p0 : Int32) (p1 : Int32) (σ : Hp) (r : Int32) (σ' : Hp) (h : t_X7_certain N p0 p1 σ = some (r, σ')) : Ci l yX7_certain us_X7_certain ({ frames := 5, cells := 0, slots := 0, locals := 111 } : Room) D cy 27 shM ad A [.ref (ad 0), .int p0, .int p1] σ r σ' := by
  unfold t_X7_certain at h
  refine Met.ofW (cc := cX7_certain) (maxL := 5) (ret := (some .int)) (by decide) rfl ?_
  intro p e s m args below meth c s₁ B hml hv
  obtain ⟨rfl, hP, hK, hD, hA, hN⟩ := hv
  have hx := B.exec
  have hb := B.bytes
  have hr := B.returns
  have hlocks := B.notSynchronized
  have hts : ∀ w ∈ wsU, w.before _ s = true := fun w h => atoms_spec (ws := us_X7_certain) B.pre w (List.mem_cons_of_mem _ h)
  have hown : s.vm.findClass RX7 = some m.cls := findClass_of_methodNamed B.named
  have hC : Cx p m c cX7_certain 5 s _ wsU RX7 D cy := ⟨⟨hx, hb, hml, hown, hts⟩, hK, hN⟩
  have hW : Wd D cy 27 shM ad A s.heap σ s.heap [] := ⟨hP, hD, va_S.rf, hA⟩
  have hl := lv_entry ([.ref (ad 0), .int p0, .int p1]) (n := 5) (Nat.le_of_ble_eq_true rfl)
  rw [lg_entry_eq]
  generalize (lg_sl ([.ref (ad 0), .int p0, .int p1]) ++ List.replicate (5 - (lg_sl ([.ref (ad 0), .int p0, .int p1])).length) Slot.unset).toArray = ls at hl ⊢
  have hl : lv_has ls 5 [(0, .ref (ad 0)), (1, .int p0), (2, .int p1)] := hl
  refine lv_aload_n hx hb dX7_certain_0 rfl (lv_at hl 0 rfl) ?_
  refine lv_iload_n hx hb dX7_certain_1 rfl (lv_at hl 1 rfl) ?_
  replace h := bd h
  obtain ⟨r1, hc, h⟩ := h
  refine r_calli hW (va_runV (As := [.int p0]) (rest := []) hC.1 (c_X7_isEgg l D cy ad A _ _ _ hc) (cwV 1 hts (gdV wd_307 wd_308 wd_309 wd_300 wd_306) rfl rfl rfl (by decide +kernel) ⟨Nat.le_of_ble_eq_true rfl, Nat.le_of_ble_eq_true rfl⟩) (r_preV hC hW (Nat.le_of_ble_eq_true rfl) rfl rfl) rfl rfl hl.1 rfl (lv_room (Nat.le_of_ble_eq_true rfl)) dX7_certain_2 ⟨Nat.zero_le _, Nat.zero_le _⟩) (fun H locs hWn => ?_)
  replace hW := hWn
  clear hWn hc
  refine lv_if_eq (tgt := 21) hx hb dX7_certain_5 (by decide) (fun cq => ?_) (fun cq => ?_)
  · replace h := tp cq h
    refine lv_iconst (v := (-1)) hx hb dX7_certain_21 (by decide) ?_
    exact r_iretW hC hr hlocks h hW dX7_certain_22
  · replace h := tn cq h
    refine lv_aload_n hx hb dX7_certain_8 rfl (lv_at hl 0 rfl) ?_
    refine lv_iload_n hx hb dX7_certain_9 rfl (lv_at hl 2 rfl) ?_
    replace h := bd h
    obtain ⟨r2, hc, h⟩ := h
    refine r_calli hW (va_runV (As := [.int p1]) (rest := []) hC.1 (c_X7_isEgg l D cy ad A _ _ _ hc) (cwV 1 hts (gdV wd_307 wd_308 wd_309 wd_300 wd_306) rfl rfl rfl (by decide +kernel) ⟨Nat.le_of_ble_eq_true rfl, Nat.le_of_ble_eq_true rfl⟩) (r_preV hC hW (Nat.le_of_ble_eq_true rfl) rfl rfl) rfl rfl hl.1 rfl (lv_room (Nat.le_of_ble_eq_true rfl)) dX7_certain_10 ⟨Nat.zero_le _, Nat.zero_le _⟩) (fun H locs hWn => ?_)
    replace hW := hWn
    clear hWn hc
    refine lv_if_eq (tgt := 21) hx hb dX7_certain_13 (by decide) (fun cq => ?_) (fun cq => ?_)
    · replace h := tp cq h
      refine lv_iconst (v := (-1)) hx hb dX7_certain_21 (by decide) ?_
      exact r_iretW hC hr hlocks h hW dX7_certain_22
    · replace h := tn cq h
      refine lv_iload_n hx hb dX7_certain_16 rfl (lv_at hl 1 rfl) ?_
      refine lv_iload_n hx hb dX7_certain_17 rfl (lv_at hl 2 rfl) ?_
      refine lv_icmp_ne (tgt := 23) hx hb dX7_certain_18 (by decide) (fun cq => ?_) (fun cq => ?_)
      · replace h := tn cq h
        refine lv_aload_n hx hb dX7_certain_23 rfl (lv_at hl 0 rfl) ?_
        replace h := ob h
        obtain ⟨r3, σ4, hc, h⟩ := h
        refine r_calli hW (va_runV (As := []) (rest := []) hC.1 (c_X7_goFits l D cy ad A N _ _ _ hc) (cwV 0 hts (gdV wd_395 wd_396 wd_397 wd_300 wd_394) rfl rfl rfl (by decide +kernel) ⟨Nat.le_of_ble_eq_true rfl, Nat.le_of_ble_eq_true rfl⟩) (r_preV hC hW (Nat.le_of_ble_eq_true rfl) rfl rfl) rfl rfl hl.1 rfl (lv_room (Nat.le_of_ble_eq_true rfl)) dX7_certain_24 ⟨Nat.zero_le _, Nat.zero_le _⟩) (fun H locs hWn => ?_)
        replace hW := hWn
        clear hWn hc
        refine lv_istore_n (lv' := [(3, .int r3), (0, .ref (ad 0)), (1, .int p0), (2, .int p1)]) hx hb dX7_certain_27 rfl hl (by decide) rfl (fun ls hln => ?_)
        replace hl := hln
        clear hln
        refine lv_iload_n hx hb dX7_certain_28 rfl (lv_at hl 0 rfl) ?_
        refine lv_bipush (v := (-6)) hx hb dX7_certain_29 (by decide) ?_
        refine lv_icmp_eq (tgt := 36) hx hb dX7_certain_31 (by decide) (fun cq => ?_) (fun cq => ?_)
        · replace h := tp cq h
          refine lv_aload_n hx hb dX7_certain_36 rfl (lv_at hl 1 rfl) ?_
          refine r_getr hC hW 36 (Nat.le_of_ble_eq_true rfl) rfl rfl rfl (by decide) inUX7 (hts _ wd_354) rfl dX7_certain_37 ?_
          refine lv_bipush (v := 7) hx hb dX7_certain_40 (by decide) ?_
          refine lv_iload_n hx hb dX7_certain_42 rfl (lv_at hl 2 rfl) ?_
          refine lv_imul hx hb dX7_certain_43 ?_
          refine lv_iload_n hx hb dX7_certain_44 rfl (lv_at hl 3 rfl) ?_
          refine lv_iadd hx hb dX7_certain_45 ?_
          replace h := og h
          obtain ⟨hi, h⟩ := h
          refine r_ald hC hW (Nat.le_of_ble_eq_true rfl) rfl hi dX7_certain_46 ?_
          replace h := bx h
          obtain ⟨x5, ex5, h⟩ := h
          refine tope ex5 ?_
          clear ex5
          refine lv_istore (lv' := [(4, .int x5), (3, .int r3), (0, .ref (ad 0)), (1, .int p0), (2, .int p1)]) hx hb dX7_certain_47 hl (by decide) rfl (fun ls hln => ?_)
          replace hl := hln
          clear hln
          refine lv_aload_n hx hb dX7_certain_49 rfl (lv_at hl 2 rfl) ?_
          refine r_geti hC hW 33 (Nat.le_of_ble_eq_true rfl) rfl rfl rfl (by decide) inUX7 (hts _ wd_356) rfl dX7_certain_50 ?_
          refine lv_if_ne (tgt := 61) hx hb dX7_certain_53 (by decide) (fun cq => ?_) (fun cq => ?_)
          · replace h := tn cq h
            refine lv_iload hx hb dX7_certain_61 (lv_at hl 0 rfl) ?_
            refine lv_aload_n hx hb dX7_certain_63 rfl (lv_at hl 2 rfl) ?_
            refine r_geti hC hW 33 (Nat.le_of_ble_eq_true rfl) rfl rfl rfl (by decide) inUX7 (hts _ wd_356) rfl dX7_certain_64 ?_
            refine lv_icmp_ne (tgt := 74) hx hb dX7_certain_67 (by decide) (fun cq => ?_) (fun cq => ?_)
            · replace h := tn cq h
              refine lv_iload hx hb dX7_certain_74 (lv_at hl 0 rfl) ?_
              refine lv_if_ne (tgt := 83) hx hb dX7_certain_76 (by decide) (fun cq => ?_) (fun cq => ?_)
              · replace h := tn cq h
                refine lv_iconst (v := 0) hx hb dX7_certain_83 (by decide) ?_
                exact r_iretW hC hr hlocks h hW dX7_certain_84
              · replace h := tp cq h
                refine lv_iconst (v := 2) hx hb dX7_certain_79 (by decide) ?_
                refine lv_goto (tgt := 84) hx hb dX7_certain_80 (by decide) ?_
                exact r_iretW hC hr hlocks h hW dX7_certain_84
            · replace h := tp cq h
              refine lv_iconst (v := 1) hx hb dX7_certain_70 (by decide) ?_
              refine lv_goto (tgt := 84) hx hb dX7_certain_71 (by decide) ?_
              exact r_iretW hC hr hlocks h hW dX7_certain_84
          · replace h := tp cq h
            refine lv_bipush (v := (-6)) hx hb dX7_certain_56 (by decide) ?_
            refine lv_goto (tgt := 84) hx hb dX7_certain_58 (by decide) ?_
            exact r_iretW hC hr hlocks h hW dX7_certain_84
        · replace h := tn cq h
          refine lv_iload_n hx hb dX7_certain_34 rfl (lv_at hl 0 rfl) ?_
          exact r_iretW hC hr hlocks h hW dX7_certain_35
      · replace h := tp cq h
        refine lv_iconst (v := (-1)) hx hb dX7_certain_21 (by decide) ?_
        exact r_iretW hC hr hlocks h hW dX7_certain_22
set_option maxHeartbeats 4000000 in
set_option maxRecDepth 100000 in
theorem c_X7_clue (l : Launch) (D : va_G) (cy : ClassId × ClassId) (ad : Nat → Nat) (A : Nat → Prop) (p0 : Int32) (p1 : Int32) (p2 : Int32) (σ : Hp) (r : Int32) (σ' : Hp) (h : t_X7_clue p0 p1 p2 σ = some (r, σ')) : Ci l yX7_clue us_X7_clue ({ frames := 2, cells := 0, slots := 0, locals := 46 } : Room) D cy 27 shM ad A [.ref (ad 0), .int p0, .int p1, .int p2] σ r σ' := by
  unfold t_X7_clue at h
  refine Met.ofW (cc := cX7_clue) (maxL := 4) (ret := (some .int)) (by decide) rfl ?_
  intro p e s m args below meth c s₁ B hml hv
  obtain ⟨rfl, hP, hK, hD, hA, hN⟩ := hv
  have hx := B.exec
  have hb := B.bytes
  have hr := B.returns
  have hlocks := B.notSynchronized
  have hts : ∀ w ∈ wsU, w.before _ s = true := fun w h => atoms_spec (ws := us_X7_clue) B.pre w (List.mem_cons_of_mem _ h)
  have hown : s.vm.findClass RX7 = some m.cls := findClass_of_methodNamed B.named
  have hC : Cx p m c cX7_clue 4 s _ wsU RX7 D cy := ⟨⟨hx, hb, hml, hown, hts⟩, hK, hN⟩
  have hW : Wd D cy 27 shM ad A s.heap σ s.heap [] := ⟨hP, hD, va_S.rf, hA⟩
  have hl := lv_entry ([.ref (ad 0), .int p0, .int p1, .int p2]) (n := 4) (Nat.le_of_ble_eq_true rfl)
  rw [lg_entry_eq]
  generalize (lg_sl ([.ref (ad 0), .int p0, .int p1, .int p2]) ++ List.replicate (4 - (lg_sl ([.ref (ad 0), .int p0, .int p1, .int p2])).length) Slot.unset).toArray = ls at hl ⊢
  have hl : lv_has ls 4 [(0, .ref (ad 0)), (1, .int p0), (2, .int p1), (3, .int p2)] := hl
  have J59 : ∀ (v1 : Int32) (v2 : Int32) (v3 : Int32) (σ : Hp), t_X7_clue_59 v1 v2 v3 σ = some (r, σ') → ∀ (H : Heap) (locs : List Loc), Wd D cy 27 shM ad A s.heap σ H locs → ∀ ls : Array Slot, lv_has ls 4 [(0, .ref (ad 0)), (1, .int v1), (2, .int v2), (3, .int v3)] → Gi p l e us_X7_clue ({ frames := 2, cells := 0, slots := 0, locals := 46 } : Room) s m [.ref (ad 0), .int p0, .int p1, .int p2] below meth c D cy 27 shM ad A r σ' H locs (F0 m 59 ls []) := by
    intro v1 v2 v3 σ h H locs hW ls hl
    unfold t_X7_clue_59 at h
    refine lv_aload_n hx hb dX7_clue_59 rfl (lv_at hl 0 rfl) ?_
    refine r_geti hC hW 11 (Nat.le_of_ble_eq_true rfl) rfl rfl rfl (by decide) inUX7 (hts _ wd_320) rfl dX7_clue_60 ?_
    refine lv_bipush (v := 12) hx hb dX7_clue_63 (by decide) ?_
    refine lv_icmp_ne (tgt := 71) hx hb dX7_clue_65 (by decide) (fun cq => ?_) (fun cq => ?_)
    · replace h := tn cq h
      refine lv_aload_n hx hb dX7_clue_71 rfl (lv_at hl 0 rfl) ?_
      refine r_getr hC hW 8 (Nat.le_of_ble_eq_true rfl) rfl rfl rfl (by decide) inUX7 (hts _ wd_319) rfl dX7_clue_72 ?_
      refine lv_aload_n hx hb dX7_clue_75 rfl (lv_at hl 0 rfl) ?_
      refine r_geti hC hW 11 (Nat.le_of_ble_eq_true rfl) rfl rfl rfl (by decide) inUX7 (hts _ wd_320) rfl dX7_clue_76 ?_
      refine lv_iload_n hx hb dX7_clue_79 rfl (lv_at hl 1 rfl) ?_
      replace h := og h
      obtain ⟨hi, h⟩ := h
      refine r_ast hC hW (Nat.le_of_ble_eq_true rfl) rfl hi dX7_clue_80 (fun σ1 eσ1 H locs hWn => ?_)
      replace h := bn eσ1 h
      replace hW := hWn
      clear hWn eσ1
      refine lv_aload_n hx hb dX7_clue_81 rfl (lv_at hl 0 rfl) ?_
      refine r_getr hC hW 9 (Nat.le_of_ble_eq_true rfl) rfl rfl rfl (by decide) inUX7 (hts _ wd_322) rfl dX7_clue_82 ?_
      refine lv_aload_n hx hb dX7_clue_85 rfl (lv_at hl 0 rfl) ?_
      refine r_geti hC hW 11 (Nat.le_of_ble_eq_true rfl) rfl rfl rfl (by decide) inUX7 (hts _ wd_320) rfl dX7_clue_86 ?_
      refine lv_iload_n hx hb dX7_clue_89 rfl (lv_at hl 2 rfl) ?_
      replace h := og h
      obtain ⟨hi, h⟩ := h
      refine r_ast hC hW (Nat.le_of_ble_eq_true rfl) rfl hi dX7_clue_90 (fun σ2 eσ2 H locs hWn => ?_)
      replace h := bn eσ2 h
      replace hW := hWn
      clear hWn eσ2
      refine lv_aload_n hx hb dX7_clue_91 rfl (lv_at hl 0 rfl) ?_
      refine r_getr hC hW 10 (Nat.le_of_ble_eq_true rfl) rfl rfl rfl (by decide) inUX7 (hts _ wd_323) rfl dX7_clue_92 ?_
      refine lv_aload_n hx hb dX7_clue_95 rfl (lv_at hl 0 rfl) ?_
      refine r_geti hC hW 11 (Nat.le_of_ble_eq_true rfl) rfl rfl rfl (by decide) inUX7 (hts _ wd_320) rfl dX7_clue_96 ?_
      refine lv_iload_n hx hb dX7_clue_99 rfl (lv_at hl 3 rfl) ?_
      replace h := og h
      obtain ⟨hi, h⟩ := h
      refine r_ast hC hW (Nat.le_of_ble_eq_true rfl) rfl hi dX7_clue_100 (fun σ3 eσ3 H locs hWn => ?_)
      replace h := bn eσ3 h
      replace hW := hWn
      clear hWn eσ3
      refine lv_aload_n hx hb dX7_clue_101 rfl (lv_at hl 0 rfl) ?_
      refine lv_dup hx hb dX7_clue_102 rfl ?_
      refine r_geti hC hW 11 (Nat.le_of_ble_eq_true rfl) rfl rfl rfl (by decide) inUX7 (hts _ wd_320) rfl dX7_clue_103 ?_
      refine lv_iconst (v := 1) hx hb dX7_clue_106 (by decide) ?_
      refine lv_iadd hx hb dX7_clue_107 ?_
      refine r_put hC hW 11 (Nat.le_of_ble_eq_true rfl) rfl rfl rfl (by decide) inUX7 tyX7 tyX7_ok nmX7 (hts _ wd_320) rfl rfl ⟨rfl, rfl⟩ dX7_clue_108 (fun σ4 eσ4 H locs hWn => ?_)
      replace h := bn eσ4 h
      replace hW := hWn
      clear hWn eσ4
      refine lv_aload_n hx hb dX7_clue_111 rfl (lv_at hl 0 rfl) ?_
      refine r_geti hC hW 11 (Nat.le_of_ble_eq_true rfl) rfl rfl rfl (by decide) inUX7 (hts _ wd_320) rfl dX7_clue_112 ?_
      exact r_iretW hC hr hlocks h hW dX7_clue_115
    · replace h := tp cq h
      refine lv_bipush (v := (-4)) hx hb dX7_clue_68 (by decide) ?_
      exact r_iretW hC hr hlocks h hW dX7_clue_70
  have J43 : ∀ (v1 : Int32) (v2 : Int32) (v3 : Int32) (σ : Hp), t_X7_clue_43 v1 v2 v3 σ = some (r, σ') → ∀ (H : Heap) (locs : List Loc), Wd D cy 27 shM ad A s.heap σ H locs → ∀ ls : Array Slot, lv_has ls 4 [(0, .ref (ad 0)), (1, .int v1), (2, .int v2), (3, .int v3)] → Gi p l e us_X7_clue ({ frames := 2, cells := 0, slots := 0, locals := 46 } : Room) s m [.ref (ad 0), .int p0, .int p1, .int p2] below meth c D cy 27 shM ad A r σ' H locs (F0 m 43 ls []) := by
    intro v1 v2 v3 σ h H locs hW ls hl
    unfold t_X7_clue_43 at h
    refine lv_iload_n hx hb dX7_clue_43 rfl (lv_at hl 1 rfl) ?_
    refine lv_iconst (v := 1) hx hb dX7_clue_44 (by decide) ?_
    refine lv_icmp_le (tgt := 59) hx hb dX7_clue_45 (by decide) (fun cq => ?_) (fun cq => ?_)
    · replace h := tp cq h
      exact J59 _ _ _ _ h _ _ hW _ (lv_sub hl [0, 1, 2, 3] rfl)
    · replace h := tn cq h
      refine lv_aload_n hx hb dX7_clue_48 rfl (lv_at hl 0 rfl) ?_
      refine lv_iload_n hx hb dX7_clue_49 rfl (lv_at hl 3 rfl) ?_
      replace h := bd h
      obtain ⟨r5, hc, h⟩ := h
      refine r_calli hW (va_runV (As := [.int v3]) (rest := []) hC.1 (c_X7_isEgg l D cy ad A _ _ _ hc) (cwV 1 hts (gdV wd_307 wd_308 wd_309 wd_300 wd_306) rfl rfl rfl (by decide +kernel) ⟨Nat.le_of_ble_eq_true rfl, Nat.le_of_ble_eq_true rfl⟩) (r_preV hC hW (Nat.le_of_ble_eq_true rfl) rfl rfl) rfl rfl hl.1 rfl (lv_room (Nat.le_of_ble_eq_true rfl)) dX7_clue_50 ⟨Nat.zero_le _, Nat.zero_le _⟩) (fun H locs hWn => ?_)
      replace hW := hWn
      clear hWn hc
      refine lv_if_ne (tgt := 59) hx hb dX7_clue_53 (by decide) (fun cq => ?_) (fun cq => ?_)
      · replace h := tn cq h
        exact J59 _ _ _ _ h _ _ hW _ (lv_sub hl [0, 1, 2, 3] rfl)
      · replace h := tp cq h
        refine lv_bipush (v := (-2)) hx hb dX7_clue_56 (by decide) ?_
        exact r_iretW hC hr hlocks h hW dX7_clue_58
  refine lv_iload_n hx hb dX7_clue_0 rfl (lv_at hl 1 rfl) ?_
  refine lv_i2l hx hb dX7_clue_1 rfl ?_
  refine lv_lconst (v := 0) hx hb dX7_clue_2 (by decide) ?_
  refine lv_ldc2 hx hb hown (hts _ wd_420) dX7_clue_3 ?_
  replace h := bd h
  obtain ⟨r6, hc, h⟩ := h
  refine r_calli hW (va_runS (As := [.long (p0.toInt64), .long 0, .long (3)]) (rest := []) hC.1 (c_X7_in l D cy ad A _ _ _ _ _ hc) (va_cwS 3 hts (gdS wd_298 wd_299 wd_300 wd_297) rfl rfl rfl (by decide +kernel) ⟨Nat.le_of_ble_eq_true rfl, Nat.le_of_ble_eq_true rfl⟩) (r_preS hC hW) rfl rfl hl.1 rfl (lv_room (Nat.le_of_ble_eq_true rfl)) dX7_clue_6 ⟨Nat.zero_le _, Nat.zero_le _⟩) (fun H locs hWn => ?_)
  replace hW := hWn
  clear hWn hc
  refine lv_if_ne (tgt := 15) hx hb dX7_clue_9 (by decide) (fun cq => ?_) (fun cq => ?_)
  · replace h := tn cq h
    refine lv_aload_n hx hb dX7_clue_15 rfl (lv_at hl 0 rfl) ?_
    refine lv_iload_n hx hb dX7_clue_16 rfl (lv_at hl 2 rfl) ?_
    replace h := bd h
    obtain ⟨r7, hc, h⟩ := h
    refine r_calli hW (va_runV (As := [.int p1]) (rest := []) hC.1 (c_X7_isEgg l D cy ad A _ _ _ hc) (cwV 1 hts (gdV wd_307 wd_308 wd_309 wd_300 wd_306) rfl rfl rfl (by decide +kernel) ⟨Nat.le_of_ble_eq_true rfl, Nat.le_of_ble_eq_true rfl⟩) (r_preV hC hW (Nat.le_of_ble_eq_true rfl) rfl rfl) rfl rfl hl.1 rfl (lv_room (Nat.le_of_ble_eq_true rfl)) dX7_clue_17 ⟨Nat.zero_le _, Nat.zero_le _⟩) (fun H locs hWn => ?_)
    replace hW := hWn
    clear hWn hc
    refine lv_if_eq (tgt := 41) hx hb dX7_clue_20 (by decide) (fun cq => ?_) (fun cq => ?_)
    · replace h := tp cq h
      refine lv_iconst (v := (-1)) hx hb dX7_clue_41 (by decide) ?_
      exact r_iretW hC hr hlocks h hW dX7_clue_42
    · replace h := tn cq h
      refine lv_iload_n hx hb dX7_clue_23 rfl (lv_at hl 1 rfl) ?_
      refine lv_iconst (v := 2) hx hb dX7_clue_24 (by decide) ?_
      refine lv_icmp_ge (tgt := 43) hx hb dX7_clue_25 (by decide) (fun cq => ?_) (fun cq => ?_)
      · replace h := tp cq h
        exact J43 _ _ _ _ h _ _ hW _ (lv_sub hl [0, 1, 2, 3] rfl)
      · replace h := tn cq h
        refine lv_aload_n hx hb dX7_clue_28 rfl (lv_at hl 0 rfl) ?_
        refine lv_iload_n hx hb dX7_clue_29 rfl (lv_at hl 3 rfl) ?_
        replace h := bd h
        obtain ⟨r8, hc, h⟩ := h
        refine r_calli hW (va_runV (As := [.int p2]) (rest := []) hC.1 (c_X7_isEgg l D cy ad A _ _ _ hc) (cwV 1 hts (gdV wd_307 wd_308 wd_309 wd_300 wd_306) rfl rfl rfl (by decide +kernel) ⟨Nat.le_of_ble_eq_true rfl, Nat.le_of_ble_eq_true rfl⟩) (r_preV hC hW (Nat.le_of_ble_eq_true rfl) rfl rfl) rfl rfl hl.1 rfl (lv_room (Nat.le_of_ble_eq_true rfl)) dX7_clue_30 ⟨Nat.zero_le _, Nat.zero_le _⟩) (fun H locs hWn => ?_)
        replace hW := hWn
        clear hWn hc
        refine lv_if_eq (tgt := 41) hx hb dX7_clue_33 (by decide) (fun cq => ?_) (fun cq => ?_)
        · replace h := tp cq h
          refine lv_iconst (v := (-1)) hx hb dX7_clue_41 (by decide) ?_
          exact r_iretW hC hr hlocks h hW dX7_clue_42
        · replace h := tn cq h
          refine lv_iload_n hx hb dX7_clue_36 rfl (lv_at hl 2 rfl) ?_
          refine lv_iload_n hx hb dX7_clue_37 rfl (lv_at hl 3 rfl) ?_
          refine lv_icmp_ne (tgt := 43) hx hb dX7_clue_38 (by decide) (fun cq => ?_) (fun cq => ?_)
          · replace h := tn cq h
            exact J43 _ _ _ _ h _ _ hW _ (lv_sub hl [0, 1, 2, 3] rfl)
          · replace h := tp cq h
            refine lv_iconst (v := (-1)) hx hb dX7_clue_41 (by decide) ?_
            exact r_iretW hC hr hlocks h hW dX7_clue_42
  · replace h := tp cq h
    refine lv_bipush (v := (-2)) hx hb dX7_clue_12 (by decide) ?_
    exact r_iretW hC hr hlocks h hW dX7_clue_14
set_option maxHeartbeats 4000000 in
set_option maxRecDepth 100000 in
theorem c_X7_done (l : Launch) (D : va_G) (cy : ClassId × ClassId) (ad : Nat → Nat) (A : Nat → Prop) (N : Nat) (σ : Hp) (r : Int32) (σ' : Hp) (h : t_X7_done N σ = some (r, σ')) : Ci l yX7_done us_X7_done ({ frames := 4, cells := 0, slots := 0, locals := 93 } : Room) D cy 27 shM ad A [.ref (ad 0)] σ r σ' := by
  unfold t_X7_done at h
  refine Met.ofW (cc := cX7_done) (maxL := 2) (ret := (some .int)) (by decide) rfl ?_
  intro p e s m args below meth c s₁ B hml hv
  obtain ⟨rfl, hP, hK, hD, hA, hN⟩ := hv
  have hx := B.exec
  have hb := B.bytes
  have hr := B.returns
  have hlocks := B.notSynchronized
  have hts : ∀ w ∈ wsU, w.before _ s = true := fun w h => atoms_spec (ws := us_X7_done) B.pre w (List.mem_cons_of_mem _ h)
  have hown : s.vm.findClass RX7 = some m.cls := findClass_of_methodNamed B.named
  have hC : Cx p m c cX7_done 2 s _ wsU RX7 D cy := ⟨⟨hx, hb, hml, hown, hts⟩, hK, hN⟩
  have hW : Wd D cy 27 shM ad A s.heap σ s.heap [] := ⟨hP, hD, va_S.rf, hA⟩
  have hl := lv_entry ([.ref (ad 0)]) (n := 2) (Nat.le_of_ble_eq_true rfl)
  rw [lg_entry_eq]
  generalize (lg_sl ([.ref (ad 0)]) ++ List.replicate (2 - (lg_sl ([.ref (ad 0)])).length) Slot.unset).toArray = ls at hl ⊢
  have hl : lv_has ls 2 [(0, .ref (ad 0))] := hl
  refine lv_aload_n hx hb dX7_done_0 rfl (lv_at hl 0 rfl) ?_
  replace h := ob h
  obtain ⟨r1, σ2, hc, h⟩ := h
  refine r_calli hW (va_runV (As := []) (rest := []) hC.1 (c_X7_refusal l D cy ad A N _ _ _ hc) (cwV 0 hts (gdV wd_417 wd_418 wd_419 wd_300 wd_416) rfl rfl rfl (by decide +kernel) ⟨Nat.le_of_ble_eq_true rfl, Nat.le_of_ble_eq_true rfl⟩) (r_preV hC hW (Nat.le_of_ble_eq_true rfl) rfl rfl) rfl rfl hl.1 rfl (lv_room (Nat.le_of_ble_eq_true rfl)) dX7_done_1 ⟨Nat.zero_le _, Nat.zero_le _⟩) (fun H locs hWn => ?_)
  replace hW := hWn
  clear hWn hc
  refine lv_istore_n (lv' := [(1, .int r1), (0, .ref (ad 0))]) hx hb dX7_done_4 rfl hl (by decide) rfl (fun ls hln => ?_)
  replace hl := hln
  clear hln
  refine lv_iload_n hx hb dX7_done_5 rfl (lv_at hl 0 rfl) ?_
  refine lv_bipush (v := (-6)) hx hb dX7_done_6 (by decide) ?_
  refine lv_icmp_eq (tgt := 13) hx hb dX7_done_8 (by decide) (fun cq => ?_) (fun cq => ?_)
  · replace h := tp cq h
    refine lv_aload_n hx hb dX7_done_13 rfl (lv_at hl 1 rfl) ?_
    replace h := bd h
    obtain ⟨σ3, hc, h⟩ := h
    refine r_callv hW (va_runV (As := []) (rest := []) hC.1 (c_X7_goWeek l D cy ad A N _ _ hc) (cwV 0 hts (gdV wd_351 wd_352 wd_353 wd_300 wd_350) rfl rfl rfl (by decide +kernel) ⟨Nat.le_of_ble_eq_true rfl, Nat.le_of_ble_eq_true rfl⟩) (r_preV hC hW (Nat.le_of_ble_eq_true rfl) rfl rfl) rfl rfl hl.1 rfl (lv_room (Nat.le_of_ble_eq_true rfl)) dX7_done_14 ⟨Nat.zero_le _, Nat.zero_le _⟩) (fun H locs hWn => ?_)
    replace hW := hWn
    clear hWn hc
    refine lv_aload_n hx hb dX7_done_17 rfl (lv_at hl 1 rfl) ?_
    refine lv_iconst (v := 0) hx hb dX7_done_18 (by decide) ?_
    refine r_put hC hW 16 (Nat.le_of_ble_eq_true rfl) rfl rfl rfl (by decide) inUX7 tyX7 tyX7_ok nmX7 (hts _ wd_310) rfl rfl ⟨rfl, rfl⟩ dX7_done_19 (fun σ4 eσ4 H locs hWn => ?_)
    replace h := bn eσ4 h
    replace hW := hWn
    clear hWn eσ4
    refine lv_aload_n hx hb dX7_done_22 rfl (lv_at hl 1 rfl) ?_
    refine r_geti hC hW 20 (Nat.le_of_ble_eq_true rfl) rfl rfl rfl (by decide) inUX7 (hts _ wd_302) rfl dX7_done_23 ?_
    exact r_iretW hC hr hlocks h hW dX7_done_26
  · replace h := tn cq h
    refine lv_iload_n hx hb dX7_done_11 rfl (lv_at hl 0 rfl) ?_
    exact r_iretW hC hr hlocks h hW dX7_done_12
set_option maxHeartbeats 4000000 in
set_option maxRecDepth 100000 in
theorem c_X7_greatest (l : Launch) (D : va_G) (cy : ClassId × ClassId) (ad : Nat → Nat) (A : Nat → Prop) (p0 : Int32) (σ : Hp) (r : Int32) (h : t_X7_greatest p0 = some r) : Ci l yX7_greatest us_X7_greatest ({ frames := 0, cells := 0, slots := 0, locals := 0 } : Room) D cy 27 shM ad A [.int p0] σ r σ := by
  unfold t_X7_greatest at h
  refine Met.ofW (cc := cX7_greatest) (maxL := 1) (ret := (some .int)) (by decide) rfl ?_
  intro p e s m args below meth c s₁ B hml hv
  obtain ⟨rfl, hP, hK, hD, hA, hN⟩ := hv
  have hx := B.exec
  have hb := B.bytes
  have hr := B.returns
  have hlocks := B.notSynchronized
  have hts : ∀ w ∈ wsU, w.before _ s = true := fun w h => atoms_spec (ws := us_X7_greatest) B.pre w (List.mem_cons_of_mem _ h)
  have hown : s.vm.findClass RX7 = some m.cls := findClass_of_methodNamed B.named
  have hC : Cx p m c cX7_greatest 1 s _ wsU RX7 D cy := ⟨⟨hx, hb, hml, hown, hts⟩, hK, hN⟩
  have hW : Wd D cy 27 shM ad A s.heap σ s.heap [] := ⟨hP, hD, va_S.rf, hA⟩
  have hl := lv_entry ([.int p0]) (n := 1) (Nat.le_of_ble_eq_true rfl)
  rw [lg_entry_eq]
  generalize (lg_sl ([.int p0]) ++ List.replicate (1 - (lg_sl ([.int p0])).length) Slot.unset).toArray = ls at hl ⊢
  have hl : lv_has ls 1 [(0, .int p0)] := hl
  refine lv_iload_n hx hb dX7_greatest_0 rfl (lv_at hl 0 rfl) ?_
  refine lv_iconst (v := 2) hx hb dX7_greatest_1 (by decide) ?_
  refine lv_icmp_ne (tgt := 10) hx hb dX7_greatest_2 (by decide) (fun cq => ?_) (fun cq => ?_)
  · replace h := tn cq h
    refine lv_iload_n hx hb dX7_greatest_10 rfl (lv_at hl 0 rfl) ?_
    refine lv_iconst (v := 3) hx hb dX7_greatest_11 (by decide) ?_
    refine lv_icmp_ne (tgt := 19) hx hb dX7_greatest_12 (by decide) (fun cq => ?_) (fun cq => ?_)
    · replace h := tn cq h
      refine lv_bipush (v := 9) hx hb dX7_greatest_19 (by decide) ?_
      exact r_iretP hC hr hlocks h hW dX7_greatest_21
    · replace h := tp cq h
      refine lv_iconst (v := 5) hx hb dX7_greatest_15 (by decide) ?_
      refine lv_goto (tgt := 21) hx hb dX7_greatest_16 (by decide) ?_
      exact r_iretP hC hr hlocks h hW dX7_greatest_21
  · replace h := tp cq h
    refine lv_bipush (v := 99) hx hb dX7_greatest_5 (by decide) ?_
    refine lv_goto (tgt := 21) hx hb dX7_greatest_7 (by decide) ?_
    exact r_iretP hC hr hlocks h hW dX7_greatest_21
set_option maxHeartbeats 4000000 in
set_option maxRecDepth 100000 in
theorem c_X7_egg (l : Launch) (D : va_G) (cy : ClassId × ClassId) (ad : Nat → Nat) (A : Nat → Prop) (p0 : Int32) (p1 : Int32) (p2 : Int32) (σ : Hp) (r : Int32) (σ' : Hp) (h : t_X7_egg p0 p1 p2 σ = some (r, σ')) : Ci l yX7_egg us_X7_egg ({ frames := 2, cells := 0, slots := 0, locals := 46 } : Room) D cy 27 shM ad A [.ref (ad 0), .int p0, .int p1, .int p2] σ r σ' := by
  unfold t_X7_egg at h
  refine Met.ofW (cc := cX7_egg) (maxL := 5) (ret := (some .int)) (by decide) rfl ?_
  intro p e s m args below meth c s₁ B hml hv
  obtain ⟨rfl, hP, hK, hD, hA, hN⟩ := hv
  have hx := B.exec
  have hb := B.bytes
  have hr := B.returns
  have hlocks := B.notSynchronized
  have hts : ∀ w ∈ wsU, w.before _ s = true := fun w h => atoms_spec (ws := us_X7_egg) B.pre w (List.mem_cons_of_mem _ h)
  have hown : s.vm.findClass RX7 = some m.cls := findClass_of_methodNamed B.named
  have hC : Cx p m c cX7_egg 5 s _ wsU RX7 D cy := ⟨⟨hx, hb, hml, hown, hts⟩, hK, hN⟩
  have hW : Wd D cy 27 shM ad A s.heap σ s.heap [] := ⟨hP, hD, va_S.rf, hA⟩
  have hl := lv_entry ([.ref (ad 0), .int p0, .int p1, .int p2]) (n := 5) (Nat.le_of_ble_eq_true rfl)
  rw [lg_entry_eq]
  generalize (lg_sl ([.ref (ad 0), .int p0, .int p1, .int p2]) ++ List.replicate (5 - (lg_sl ([.ref (ad 0), .int p0, .int p1, .int p2])).length) Slot.unset).toArray = ls at hl ⊢
  have hl : lv_has ls 5 [(0, .ref (ad 0)), (1, .int p0), (2, .int p1), (3, .int p2)] := hl
  have J174 : ∀ (v1 : Int32) (v2 : Int32) (v3 : Int32) (v4 : Int32) (s1 : Int32) (s2 : Int32) (σ : Hp), t_X7_egg_174 v1 v2 v3 v4 s1 s2 σ = some (r, σ') → ∀ (H : Heap) (locs : List Loc), Wd D cy 27 shM ad A s.heap σ H locs → ∀ ls : Array Slot, lv_has ls 5 [(0, .ref (ad 0)), (1, .int v1), (2, .int v2), (3, .int v3), (4, .int v4)] → Gi p l e us_X7_egg ({ frames := 2, cells := 0, slots := 0, locals := 46 } : Room) s m [.ref (ad 0), .int p0, .int p1, .int p2] below meth c D cy 27 shM ad A r σ' H locs (F0 m 174 ls [.int s2, .int s1, .ref (ad 3)]) := by
    intro v1 v2 v3 v4 s1 s2 σ h H locs hW ls hl
    unfold t_X7_egg_174 at h
    replace h := og h
    obtain ⟨hi, h⟩ := h
    refine r_ast hC hW (Nat.le_of_ble_eq_true rfl) rfl hi dX7_egg_174 (fun σ1 eσ1 H locs hWn => ?_)
    replace h := bn eσ1 h
    replace hW := hWn
    clear hWn eσ1
    refine lv_aload_n hx hb dX7_egg_175 rfl (lv_at hl 0 rfl) ?_
    refine r_getr hC hW 4 (Nat.le_of_ble_eq_true rfl) rfl rfl rfl (by decide) inUX7 (hts _ wd_318) rfl dX7_egg_176 ?_
    refine lv_iload_n hx hb dX7_egg_179 rfl (lv_at hl 1 rfl) ?_
    refine lv_iload_n hx hb dX7_egg_180 rfl (lv_at hl 2 rfl) ?_
    refine lv_iconst (v := 3) hx hb dX7_egg_181 (by decide) ?_
    refine lv_icmp_ne (tgt := 189) hx hb dX7_egg_182 (by decide) (fun cq => ?_) (fun cq => ?_)
    · replace h := tn cq h
      refine lv_aload_n hx hb dX7_egg_189 rfl (lv_at hl 0 rfl) ?_
      refine r_getr hC hW 4 (Nat.le_of_ble_eq_true rfl) rfl rfl rfl (by decide) inUX7 (hts _ wd_318) rfl dX7_egg_190 ?_
      refine lv_iload_n hx hb dX7_egg_193 rfl (lv_at hl 1 rfl) ?_
      replace h := og h
      obtain ⟨hi, h⟩ := h
      refine r_ald hC hW (Nat.le_of_ble_eq_true rfl) rfl hi dX7_egg_194 ?_
      replace h := og h
      obtain ⟨hi, h⟩ := h
      refine r_ast hC hW (Nat.le_of_ble_eq_true rfl) rfl hi dX7_egg_195 (fun σ2 eσ2 H locs hWn => ?_)
      replace h := bn eσ2 h
      replace hW := hWn
      clear hWn eσ2
      refine lv_iload hx hb dX7_egg_196 (lv_at hl 4 rfl) ?_
      exact r_iretW hC hr hlocks h hW dX7_egg_198
    · replace h := tp cq h
      refine lv_iload_n hx hb dX7_egg_185 rfl (lv_at hl 3 rfl) ?_
      refine lv_goto (tgt := 195) hx hb dX7_egg_186 (by decide) ?_
      replace h := og h
      obtain ⟨hi, h⟩ := h
      refine r_ast hC hW (Nat.le_of_ble_eq_true rfl) rfl hi dX7_egg_195 (fun σ3 eσ3 H locs hWn => ?_)
      replace h := bn eσ3 h
      replace hW := hWn
      clear hWn eσ3
      refine lv_iload hx hb dX7_egg_196 (lv_at hl 4 rfl) ?_
      exact r_iretW hC hr hlocks h hW dX7_egg_198
  have J153 : ∀ (v1 : Int32) (v2 : Int32) (v3 : Int32) (v4 : Int32) (s1 : Int32) (s2 : Int32) (σ : Hp), t_X7_egg_153 v1 v2 v3 v4 s1 s2 σ = some (r, σ') → ∀ (H : Heap) (locs : List Loc), Wd D cy 27 shM ad A s.heap σ H locs → ∀ ls : Array Slot, lv_has ls 5 [(0, .ref (ad 0)), (1, .int v1), (2, .int v2), (3, .int v3), (4, .int v4)] → Gi p l e us_X7_egg ({ frames := 2, cells := 0, slots := 0, locals := 46 } : Room) s m [.ref (ad 0), .int p0, .int p1, .int p2] below meth c D cy 27 shM ad A r σ' H locs (F0 m 153 ls [.int s2, .int s1, .ref (ad 2)]) := by
    intro v1 v2 v3 v4 s1 s2 σ h H locs hW ls hl
    unfold t_X7_egg_153 at h
    replace h := og h
    obtain ⟨hi, h⟩ := h
    refine r_ast hC hW (Nat.le_of_ble_eq_true rfl) rfl hi dX7_egg_153 (fun σ4 eσ4 H locs hWn => ?_)
    replace h := bn eσ4 h
    replace hW := hWn
    clear hWn eσ4
    refine lv_aload_n hx hb dX7_egg_154 rfl (lv_at hl 0 rfl) ?_
    refine r_getr hC hW 3 (Nat.le_of_ble_eq_true rfl) rfl rfl rfl (by decide) inUX7 (hts _ wd_398) rfl dX7_egg_155 ?_
    refine lv_iload_n hx hb dX7_egg_158 rfl (lv_at hl 1 rfl) ?_
    refine lv_iload_n hx hb dX7_egg_159 rfl (lv_at hl 2 rfl) ?_
    refine lv_iconst (v := 2) hx hb dX7_egg_160 (by decide) ?_
    refine lv_icmp_ne (tgt := 168) hx hb dX7_egg_161 (by decide) (fun cq => ?_) (fun cq => ?_)
    · replace h := tn cq h
      refine lv_aload_n hx hb dX7_egg_168 rfl (lv_at hl 0 rfl) ?_
      refine r_getr hC hW 3 (Nat.le_of_ble_eq_true rfl) rfl rfl rfl (by decide) inUX7 (hts _ wd_398) rfl dX7_egg_169 ?_
      refine lv_iload_n hx hb dX7_egg_172 rfl (lv_at hl 1 rfl) ?_
      replace h := og h
      obtain ⟨hi, h⟩ := h
      refine r_ald hC hW (Nat.le_of_ble_eq_true rfl) rfl hi dX7_egg_173 ?_
      exact J174 _ _ _ _ _ _ _ h _ _ hW _ (lv_sub hl [0, 1, 2, 3, 4] rfl)
    · replace h := tp cq h
      refine lv_iload_n hx hb dX7_egg_164 rfl (lv_at hl 3 rfl) ?_
      refine lv_goto (tgt := 174) hx hb dX7_egg_165 (by decide) ?_
      exact J174 _ _ _ _ _ _ _ h _ _ hW _ (lv_sub hl [0, 1, 2, 3, 4] rfl)
  have J132 : ∀ (v1 : Int32) (v2 : Int32) (v3 : Int32) (v4 : Int32) (s1 : Int32) (s2 : Int32) (σ : Hp), t_X7_egg_132 v1 v2 v3 v4 s1 s2 σ = some (r, σ') → ∀ (H : Heap) (locs : List Loc), Wd D cy 27 shM ad A s.heap σ H locs → ∀ ls : Array Slot, lv_has ls 5 [(0, .ref (ad 0)), (1, .int v1), (2, .int v2), (3, .int v3), (4, .int v4)] → Gi p l e us_X7_egg ({ frames := 2, cells := 0, slots := 0, locals := 46 } : Room) s m [.ref (ad 0), .int p0, .int p1, .int p2] below meth c D cy 27 shM ad A r σ' H locs (F0 m 132 ls [.int s2, .int s1, .ref (ad 1)]) := by
    intro v1 v2 v3 v4 s1 s2 σ h H locs hW ls hl
    unfold t_X7_egg_132 at h
    replace h := og h
    obtain ⟨hi, h⟩ := h
    refine r_ast hC hW (Nat.le_of_ble_eq_true rfl) rfl hi dX7_egg_132 (fun σ5 eσ5 H locs hWn => ?_)
    replace h := bn eσ5 h
    replace hW := hWn
    clear hWn eσ5
    refine lv_aload_n hx hb dX7_egg_133 rfl (lv_at hl 0 rfl) ?_
    refine r_getr hC hW 2 (Nat.le_of_ble_eq_true rfl) rfl rfl rfl (by decide) inUX7 (hts _ wd_317) rfl dX7_egg_134 ?_
    refine lv_iload_n hx hb dX7_egg_137 rfl (lv_at hl 1 rfl) ?_
    refine lv_iload_n hx hb dX7_egg_138 rfl (lv_at hl 2 rfl) ?_
    refine lv_iconst (v := 1) hx hb dX7_egg_139 (by decide) ?_
    refine lv_icmp_ne (tgt := 147) hx hb dX7_egg_140 (by decide) (fun cq => ?_) (fun cq => ?_)
    · replace h := tn cq h
      refine lv_aload_n hx hb dX7_egg_147 rfl (lv_at hl 0 rfl) ?_
      refine r_getr hC hW 2 (Nat.le_of_ble_eq_true rfl) rfl rfl rfl (by decide) inUX7 (hts _ wd_317) rfl dX7_egg_148 ?_
      refine lv_iload_n hx hb dX7_egg_151 rfl (lv_at hl 1 rfl) ?_
      replace h := og h
      obtain ⟨hi, h⟩ := h
      refine r_ald hC hW (Nat.le_of_ble_eq_true rfl) rfl hi dX7_egg_152 ?_
      exact J153 _ _ _ _ _ _ _ h _ _ hW _ (lv_sub hl [0, 1, 2, 3, 4] rfl)
    · replace h := tp cq h
      refine lv_iload_n hx hb dX7_egg_143 rfl (lv_at hl 3 rfl) ?_
      refine lv_goto (tgt := 153) hx hb dX7_egg_144 (by decide) ?_
      exact J153 _ _ _ _ _ _ _ h _ _ hW _ (lv_sub hl [0, 1, 2, 3, 4] rfl)
  have J111 : ∀ (v1 : Int32) (v2 : Int32) (v3 : Int32) (s0 : Int32) (σ : Hp), t_X7_egg_111 v1 v2 v3 s0 σ = some (r, σ') → ∀ (H : Heap) (locs : List Loc), Wd D cy 27 shM ad A s.heap σ H locs → ∀ ls : Array Slot, lv_has ls 5 [(0, .ref (ad 0)), (1, .int v1), (2, .int v2), (3, .int v3)] → Gi p l e us_X7_egg ({ frames := 2, cells := 0, slots := 0, locals := 46 } : Room) s m [.ref (ad 0), .int p0, .int p1, .int p2] below meth c D cy 27 shM ad A r σ' H locs (F0 m 111 ls [.int s0]) := by
    intro v1 v2 v3 s0 σ h H locs hW ls hl
    unfold t_X7_egg_111 at h
    refine lv_istore (lv' := [(4, .int s0), (0, .ref (ad 0)), (1, .int v1), (2, .int v2), (3, .int v3)]) hx hb dX7_egg_111 hl (by decide) rfl (fun ls hln => ?_)
    replace hl := hln
    clear hln
    refine lv_aload_n hx hb dX7_egg_113 rfl (lv_at hl 1 rfl) ?_
    refine r_getr hC hW 1 (Nat.le_of_ble_eq_true rfl) rfl rfl rfl (by decide) inUX7 (hts _ wd_325) rfl dX7_egg_114 ?_
    refine lv_iload_n hx hb dX7_egg_117 rfl (lv_at hl 2 rfl) ?_
    refine lv_iload_n hx hb dX7_egg_118 rfl (lv_at hl 3 rfl) ?_
    refine lv_if_ne (tgt := 126) hx hb dX7_egg_119 (by decide) (fun cq => ?_) (fun cq => ?_)
    · replace h := tn cq h
      refine lv_aload_n hx hb dX7_egg_126 rfl (lv_at hl 1 rfl) ?_
      refine r_getr hC hW 1 (Nat.le_of_ble_eq_true rfl) rfl rfl rfl (by decide) inUX7 (hts _ wd_325) rfl dX7_egg_127 ?_
      refine lv_iload_n hx hb dX7_egg_130 rfl (lv_at hl 2 rfl) ?_
      replace h := og h
      obtain ⟨hi, h⟩ := h
      refine r_ald hC hW (Nat.le_of_ble_eq_true rfl) rfl hi dX7_egg_131 ?_
      exact J132 _ _ _ _ _ _ _ h _ _ hW _ (lv_sub hl [1, 2, 3, 4, 0] rfl)
    · replace h := tp cq h
      refine lv_iload_n hx hb dX7_egg_122 rfl (lv_at hl 4 rfl) ?_
      refine lv_goto (tgt := 132) hx hb dX7_egg_123 (by decide) ?_
      exact J132 _ _ _ _ _ _ _ h _ _ hW _ (lv_sub hl [1, 2, 3, 4, 0] rfl)
  have J64 : ∀ (v1 : Int32) (v2 : Int32) (v3 : Int32) (σ : Hp), t_X7_egg_64 v1 v2 v3 σ = some (r, σ') → ∀ (H : Heap) (locs : List Loc), Wd D cy 27 shM ad A s.heap σ H locs → ∀ ls : Array Slot, lv_has ls 5 [(0, .ref (ad 0)), (1, .int v1), (2, .int v2), (3, .int v3)] → Gi p l e us_X7_egg ({ frames := 2, cells := 0, slots := 0, locals := 46 } : Room) s m [.ref (ad 0), .int p0, .int p1, .int p2] below meth c D cy 27 shM ad A r σ' H locs (F0 m 64 ls []) := by
    intro v1 v2 v3 σ h H locs hW ls hl
    unfold t_X7_egg_64 at h
    refine lv_iload_n hx hb dX7_egg_64 rfl (lv_at hl 2 rfl) ?_
    refine lv_if_ne (tgt := 77) hx hb dX7_egg_65 (by decide) (fun cq => ?_) (fun cq => ?_)
    · replace h := tn cq h
      refine lv_iload_n hx hb dX7_egg_77 rfl (lv_at hl 2 rfl) ?_
      refine lv_iconst (v := 1) hx hb dX7_egg_78 (by decide) ?_
      refine lv_icmp_ne (tgt := 91) hx hb dX7_egg_79 (by decide) (fun cq => ?_) (fun cq => ?_)
      · replace h := tn cq h
        refine lv_iload_n hx hb dX7_egg_91 rfl (lv_at hl 2 rfl) ?_
        refine lv_iconst (v := 2) hx hb dX7_egg_92 (by decide) ?_
        refine lv_icmp_ne (tgt := 105) hx hb dX7_egg_93 (by decide) (fun cq => ?_) (fun cq => ?_)
        · replace h := tn cq h
          refine lv_aload_n hx hb dX7_egg_105 rfl (lv_at hl 0 rfl) ?_
          refine r_getr hC hW 4 (Nat.le_of_ble_eq_true rfl) rfl rfl rfl (by decide) inUX7 (hts _ wd_318) rfl dX7_egg_106 ?_
          refine lv_iload_n hx hb dX7_egg_109 rfl (lv_at hl 1 rfl) ?_
          replace h := og h
          obtain ⟨hi, h⟩ := h
          refine r_ald hC hW (Nat.le_of_ble_eq_true rfl) rfl hi dX7_egg_110 ?_
          exact J111 _ _ _ _ _ h _ _ hW _ (lv_sub hl [0, 1, 2, 3] rfl)
        · replace h := tp cq h
          refine lv_aload_n hx hb dX7_egg_96 rfl (lv_at hl 0 rfl) ?_
          refine r_getr hC hW 3 (Nat.le_of_ble_eq_true rfl) rfl rfl rfl (by decide) inUX7 (hts _ wd_398) rfl dX7_egg_97 ?_
          refine lv_iload_n hx hb dX7_egg_100 rfl (lv_at hl 1 rfl) ?_
          replace h := og h
          obtain ⟨hi, h⟩ := h
          refine r_ald hC hW (Nat.le_of_ble_eq_true rfl) rfl hi dX7_egg_101 ?_
          refine lv_goto (tgt := 111) hx hb dX7_egg_102 (by decide) ?_
          exact J111 _ _ _ _ _ h _ _ hW _ (lv_sub hl [0, 1, 2, 3] rfl)
      · replace h := tp cq h
        refine lv_aload_n hx hb dX7_egg_82 rfl (lv_at hl 0 rfl) ?_
        refine r_getr hC hW 2 (Nat.le_of_ble_eq_true rfl) rfl rfl rfl (by decide) inUX7 (hts _ wd_317) rfl dX7_egg_83 ?_
        refine lv_iload_n hx hb dX7_egg_86 rfl (lv_at hl 1 rfl) ?_
        replace h := og h
        obtain ⟨hi, h⟩ := h
        refine r_ald hC hW (Nat.le_of_ble_eq_true rfl) rfl hi dX7_egg_87 ?_
        refine lv_goto (tgt := 111) hx hb dX7_egg_88 (by decide) ?_
        exact J111 _ _ _ _ _ h _ _ hW _ (lv_sub hl [0, 1, 2, 3] rfl)
    · replace h := tp cq h
      refine lv_aload_n hx hb dX7_egg_68 rfl (lv_at hl 0 rfl) ?_
      refine r_getr hC hW 1 (Nat.le_of_ble_eq_true rfl) rfl rfl rfl (by decide) inUX7 (hts _ wd_325) rfl dX7_egg_69 ?_
      refine lv_iload_n hx hb dX7_egg_72 rfl (lv_at hl 1 rfl) ?_
      replace h := og h
      obtain ⟨hi, h⟩ := h
      refine r_ald hC hW (Nat.le_of_ble_eq_true rfl) rfl hi dX7_egg_73 ?_
      refine lv_goto (tgt := 111) hx hb dX7_egg_74 (by decide) ?_
      exact J111 _ _ _ _ _ h _ _ hW _ (lv_sub hl [0, 1, 2, 3] rfl)
  have J33 : ∀ (v1 : Int32) (v2 : Int32) (v3 : Int32) (s0 : Int64) (s1 : Int64) (σ : Hp), t_X7_egg_33 v1 v2 v3 s0 s1 σ = some (r, σ') → ∀ (H : Heap) (locs : List Loc), Wd D cy 27 shM ad A s.heap σ H locs → ∀ ls : Array Slot, lv_has ls 5 [(0, .ref (ad 0)), (1, .int v1), (2, .int v2), (3, .int v3)] → Gi p l e us_X7_egg ({ frames := 2, cells := 0, slots := 0, locals := 46 } : Room) s m [.ref (ad 0), .int p0, .int p1, .int p2] below meth c D cy 27 shM ad A r σ' H locs (F0 m 33 ls [.long s1, .long s0]) := by
    intro v1 v2 v3 s0 s1 σ h H locs hW ls hl
    unfold t_X7_egg_33 at h
    refine lv_iload_n hx hb dX7_egg_33 rfl (lv_at hl 2 rfl) ?_
    replace h := bd h
    obtain ⟨r6, hc, h⟩ := h
    refine r_calli hW (va_runS (As := [.int v2]) (rest := [.long s1, .long s0]) hC.1 (c_X7_greatest l D cy ad A _ _ _ hc) (va_cwS 1 hts (gdS wd_422 wd_423 wd_300 wd_421) rfl rfl rfl (by decide +kernel) ⟨Nat.le_of_ble_eq_true rfl, Nat.le_of_ble_eq_true rfl⟩) (r_preS hC hW) rfl rfl hl.1 rfl (lv_room (Nat.le_of_ble_eq_true rfl)) dX7_egg_34 ⟨Nat.zero_le _, Nat.zero_le _⟩) (fun H locs hWn => ?_)
    replace hW := hWn
    clear hWn hc
    refine lv_i2l hx hb dX7_egg_37 rfl ?_
    replace h := bd h
    obtain ⟨r7, hc, h⟩ := h
    refine r_calli hW (va_runS (As := [.long s0, .long s1, .long (r6.toInt64)]) (rest := []) hC.1 (c_X7_in l D cy ad A _ _ _ _ _ hc) (va_cwS 3 hts (gdS wd_298 wd_299 wd_300 wd_297) rfl rfl rfl (by decide +kernel) ⟨Nat.le_of_ble_eq_true rfl, Nat.le_of_ble_eq_true rfl⟩) (r_preS hC hW) rfl rfl hl.1 rfl (lv_room (Nat.le_of_ble_eq_true rfl)) dX7_egg_38 ⟨Nat.zero_le _, Nat.zero_le _⟩) (fun H locs hWn => ?_)
    replace hW := hWn
    clear hWn hc
    refine lv_if_ne (tgt := 47) hx hb dX7_egg_41 (by decide) (fun cq => ?_) (fun cq => ?_)
    · replace h := tn cq h
      refine lv_iload_n hx hb dX7_egg_47 rfl (lv_at hl 2 rfl) ?_
      refine lv_iconst (v := 1) hx hb dX7_egg_48 (by decide) ?_
      refine lv_icmp_ne (tgt := 64) hx hb dX7_egg_49 (by decide) (fun cq => ?_) (fun cq => ?_)
      · replace h := tn cq h
        exact J64 _ _ _ _ h _ _ hW _ (lv_sub hl [0, 1, 2, 3] rfl)
      · replace h := tp cq h
        refine lv_aload_n hx hb dX7_egg_52 rfl (lv_at hl 0 rfl) ?_
        refine r_getr hC hW 5 (Nat.le_of_ble_eq_true rfl) rfl rfl rfl (by decide) inUX7 (hts _ wd_295) rfl dX7_egg_53 ?_
        refine lv_iload_n hx hb dX7_egg_56 rfl (lv_at hl 1 rfl) ?_
        replace h := og h
        obtain ⟨hi, h⟩ := h
        refine r_ald hC hW (Nat.le_of_ble_eq_true rfl) rfl hi dX7_egg_57 ?_
        refine lv_if_eq (tgt := 64) hx hb dX7_egg_58 (by decide) (fun cq => ?_) (fun cq => ?_)
        · replace h := tp cq h
          exact J64 _ _ _ _ h _ _ hW _ (lv_sub hl [0, 1, 2, 3] rfl)
        · replace h := tn cq h
          refine lv_bipush (v := (-3)) hx hb dX7_egg_61 (by decide) ?_
          exact r_iretW hC hr hlocks h hW dX7_egg_63
    · replace h := tp cq h
      refine lv_bipush (v := (-2)) hx hb dX7_egg_44 (by decide) ?_
      exact r_iretW hC hr hlocks h hW dX7_egg_46
  refine lv_aload_n hx hb dX7_egg_0 rfl (lv_at hl 0 rfl) ?_
  refine lv_iload_n hx hb dX7_egg_1 rfl (lv_at hl 1 rfl) ?_
  replace h := bd h
  obtain ⟨r8, hc, h⟩ := h
  refine r_calli hW (va_runV (As := [.int p0]) (rest := []) hC.1 (c_X7_isEgg l D cy ad A _ _ _ hc) (cwV 1 hts (gdV wd_307 wd_308 wd_309 wd_300 wd_306) rfl rfl rfl (by decide +kernel) ⟨Nat.le_of_ble_eq_true rfl, Nat.le_of_ble_eq_true rfl⟩) (r_preV hC hW (Nat.le_of_ble_eq_true rfl) rfl rfl) rfl rfl hl.1 rfl (lv_room (Nat.le_of_ble_eq_true rfl)) dX7_egg_2 ⟨Nat.zero_le _, Nat.zero_le _⟩) (fun H locs hWn => ?_)
  replace hW := hWn
  clear hWn hc
  refine lv_if_ne (tgt := 10) hx hb dX7_egg_5 (by decide) (fun cq => ?_) (fun cq => ?_)
  · replace h := tn cq h
    refine lv_iload_n hx hb dX7_egg_10 rfl (lv_at hl 2 rfl) ?_
    refine lv_i2l hx hb dX7_egg_11 rfl ?_
    refine lv_lconst (v := 0) hx hb dX7_egg_12 (by decide) ?_
    refine lv_ldc2 hx hb hown (hts _ wd_420) dX7_egg_13 ?_
    replace h := bd h
    obtain ⟨r9, hc, h⟩ := h
    refine r_calli hW (va_runS (As := [.long (p1.toInt64), .long 0, .long (3)]) (rest := []) hC.1 (c_X7_in l D cy ad A _ _ _ _ _ hc) (va_cwS 3 hts (gdS wd_298 wd_299 wd_300 wd_297) rfl rfl rfl (by decide +kernel) ⟨Nat.le_of_ble_eq_true rfl, Nat.le_of_ble_eq_true rfl⟩) (r_preS hC hW) rfl rfl hl.1 rfl (lv_room (Nat.le_of_ble_eq_true rfl)) dX7_egg_16 ⟨Nat.zero_le _, Nat.zero_le _⟩) (fun H locs hWn => ?_)
    replace hW := hWn
    clear hWn hc
    refine lv_if_eq (tgt := 44) hx hb dX7_egg_19 (by decide) (fun cq => ?_) (fun cq => ?_)
    · replace h := tp cq h
      refine lv_bipush (v := (-2)) hx hb dX7_egg_44 (by decide) ?_
      exact r_iretW hC hr hlocks h hW dX7_egg_46
    · replace h := tn cq h
      refine lv_iload_n hx hb dX7_egg_22 rfl (lv_at hl 3 rfl) ?_
      refine lv_i2l hx hb dX7_egg_23 rfl ?_
      refine lv_iload_n hx hb dX7_egg_24 rfl (lv_at hl 2 rfl) ?_
      refine lv_if_ne (tgt := 32) hx hb dX7_egg_25 (by decide) (fun cq => ?_) (fun cq => ?_)
      · replace h := tn cq h
        refine lv_lconst (v := 0) hx hb dX7_egg_32 (by decide) ?_
        exact J33 _ _ _ _ _ _ h _ _ hW _ (lv_sub hl [0, 1, 2, 3] rfl)
      · replace h := tp cq h
        refine lv_lconst (v := 1) hx hb dX7_egg_28 (by decide) ?_
        refine lv_goto (tgt := 33) hx hb dX7_egg_29 (by decide) ?_
        exact J33 _ _ _ _ _ _ h _ _ hW _ (lv_sub hl [0, 1, 2, 3] rfl)
  · replace h := tp cq h
    refine lv_iconst (v := (-1)) hx hb dX7_egg_8 (by decide) ?_
    exact r_iretW hC hr hlocks h hW dX7_egg_9
set_option maxHeartbeats 4000000 in
set_option maxRecDepth 100000 in
theorem c_X7_eggs (l : Launch) (D : va_G) (cy : ClassId × ClassId) (ad : Nat → Nat) (A : Nat → Prop) (N : Nat) (p0 : Int32) (σ : Hp) (r : Int32) (σ' : Hp) (h : t_X7_eggs N p0 σ = some (r, σ')) : Ci l yX7_eggs us_X7_eggs ({ frames := 1, cells := 0, slots := 0, locals := 25 } : Room) D cy 27 shM ad A [.ref (ad 0), .int p0] σ r σ' := by
  unfold t_X7_eggs at h
  refine Met.ofW (cc := cX7_eggs) (maxL := 3) (ret := (some .int)) (by decide) rfl ?_
  intro p e s m args below meth c s₁ B hml hv
  obtain ⟨rfl, hP, hK, hD, hA, hN⟩ := hv
  have hx := B.exec
  have hb := B.bytes
  have hr := B.returns
  have hlocks := B.notSynchronized
  have hts : ∀ w ∈ wsU, w.before _ s = true := fun w h => atoms_spec (ws := us_X7_eggs) B.pre w (List.mem_cons_of_mem _ h)
  have hown : s.vm.findClass RX7 = some m.cls := findClass_of_methodNamed B.named
  have hC : Cx p m c cX7_eggs 3 s _ wsU RX7 D cy := ⟨⟨hx, hb, hml, hown, hts⟩, hK, hN⟩
  have hW : Wd D cy 27 shM ad A s.heap σ s.heap [] := ⟨hP, hD, va_S.rf, hA⟩
  have hl := lv_entry ([.ref (ad 0), .int p0]) (n := 3) (Nat.le_of_ble_eq_true rfl)
  rw [lg_entry_eq]
  generalize (lg_sl ([.ref (ad 0), .int p0]) ++ List.replicate (3 - (lg_sl ([.ref (ad 0), .int p0])).length) Slot.unset).toArray = ls at hl ⊢
  have hl : lv_has ls 3 [(0, .ref (ad 0)), (1, .int p0)] := hl
  refine lv_iload_n hx hb dX7_eggs_0 rfl (lv_at hl 1 rfl) ?_
  refine lv_i2l hx hb dX7_eggs_1 rfl ?_
  refine lv_lconst (v := 1) hx hb dX7_eggs_2 (by decide) ?_
  refine lv_ldc2 hx hb hown (hts _ wd_424) dX7_eggs_3 ?_
  replace h := bd h
  obtain ⟨r1, hc, h⟩ := h
  refine r_calli hW (va_runS (As := [.long (p0.toInt64), .long 1, .long (7)]) (rest := []) hC.1 (c_X7_in l D cy ad A _ _ _ _ _ hc) (va_cwS 3 hts (gdS wd_298 wd_299 wd_300 wd_297) rfl rfl rfl (by decide +kernel) ⟨Nat.le_of_ble_eq_true rfl, Nat.le_of_ble_eq_true rfl⟩) (r_preS hC hW) rfl rfl hl.1 rfl (lv_room (Nat.le_of_ble_eq_true rfl)) dX7_eggs_6 ⟨Nat.zero_le _, Nat.zero_le _⟩) (fun H locs hWn => ?_)
  replace hW := hWn
  clear hWn hc
  refine lv_if_ne (tgt := 15) hx hb dX7_eggs_9 (by decide) (fun cq => ?_) (fun cq => ?_)
  · replace h := tn cq h
    refine lv_aload_n hx hb dX7_eggs_15 rfl (lv_at hl 0 rfl) ?_
    refine r_geti hC hW 0 (Nat.le_of_ble_eq_true rfl) rfl rfl rfl (by decide) inUX7 (hts _ wd_294) rfl dX7_eggs_16 ?_
    replace h := bx h
    obtain ⟨x2, ex2, h⟩ := h
    refine tope ex2 ?_
    clear ex2
    refine lv_istore_n (lv' := [(2, .int x2), (0, .ref (ad 0)), (1, .int p0)]) hx hb dX7_eggs_19 rfl hl (by decide) rfl (fun ls hln => ?_)
    replace hl := hln
    clear hln
    refine lv_aload_n hx hb dX7_eggs_20 rfl (lv_at hl 1 rfl) ?_
    refine lv_iload_n hx hb dX7_eggs_21 rfl (lv_at hl 2 rfl) ?_
    replace h := bd h
    obtain ⟨σ3, hc, h⟩ := h
    refine r_callv hW (va_runV (As := [.int p0]) (rest := []) hC.1 (c_X7_begin l D cy ad A N _ _ _ hc) (cwV 1 hts (gdV wd_426 wd_427 wd_428 wd_300 wd_425) rfl rfl rfl (by decide +kernel) ⟨Nat.le_of_ble_eq_true rfl, Nat.le_of_ble_eq_true rfl⟩) (r_preV hC hW (Nat.le_of_ble_eq_true rfl) rfl rfl) rfl rfl hl.1 rfl (lv_room (Nat.le_of_ble_eq_true rfl)) dX7_eggs_22 ⟨Nat.zero_le _, Nat.zero_le _⟩) (fun H locs hWn => ?_)
    replace hW := hWn
    clear hWn hc
    refine lv_iload_n hx hb dX7_eggs_25 rfl (lv_at hl 0 rfl) ?_
    exact r_iretW hC hr hlocks h hW dX7_eggs_26
  · replace h := tp cq h
    refine lv_bipush (v := (-2)) hx hb dX7_eggs_12 (by decide) ?_
    exact r_iretW hC hr hlocks h hW dX7_eggs_14
