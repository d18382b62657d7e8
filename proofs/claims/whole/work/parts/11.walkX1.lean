set_option maxHeartbeats 4000000 in
set_option maxRecDepth 100000 in
theorem c_X0_warm (l : Launch) (D : va_G) (cy : ClassId × ClassId) (ad : Nat → Nat) (A : Nat → Prop) (N : Nat) (o : Nat) (ho : isCoop o) (σ : Hp) (σ' : Hp) (h : t_X0_warm N o σ = some σ') : Cv l yX0_warm us_X0_warm ({ frames := 2, cells := 0, slots := 0, locals := 45 } : Room) D cy 55 shX ad A [.ref (ad o)] σ σ' := by
  unfold t_X0_warm at h
  refine Met.ofW (cc := cX0_warm) (maxL := 3) (ret := none) (by decide) rfl ?_
  intro p e s m args below meth c s₁ B hml hv
  obtain ⟨rfl, hP, hK, hD, hA, hN⟩ := hv
  have hx := B.exec
  have hb := B.bytes
  have hr := B.returns
  have hlocks := B.notSynchronized
  have hts : ∀ w ∈ wsU, w.before _ s = true := fun w h => atoms_spec (ws := us_X0_warm) B.pre w (List.mem_cons_of_mem _ h)
  have hown : s.vm.findClass RX0 = some m.cls := findClass_of_methodNamed B.named
  have hC : Cx p m c cX0_warm 3 s _ wsU RX0 D cy := ⟨⟨hx, hb, hml, hown, hts⟩, hK, hN⟩
  have hW : Wd D cy 55 shX ad A s.heap σ s.heap [] := ⟨hP, hD, va_S.rf, hA⟩
  have hl := lv_entry ([.ref (ad o)]) (n := 3) (Nat.le_of_ble_eq_true rfl)
  rw [lg_entry_eq]
  generalize (lg_sl ([.ref (ad o)]) ++ List.replicate (3 - (lg_sl ([.ref (ad o)])).length) Slot.unset).toArray = ls at hl ⊢
  have hl : lv_has ls 3 [(0, .ref (ad o))] := hl
  have L2 : ∀ (f : Nat) (v1 : Int32) (σ : Hp), t_X0_warm_2 N o f v1 σ = some σ' → ∀ (H : Heap) (locs : List Loc), Wd D cy 55 shX ad A s.heap σ H locs → ∀ ls : Array Slot, lv_has ls 3 [(0, .ref (ad o)), (1, .int v1)] → Gv p l e us_X0_warm ({ frames := 2, cells := 0, slots := 0, locals := 45 } : Room) s m [.ref (ad o)] below meth c D cy 55 shX ad A σ' H locs (F0 m 2 ls []) := by
    intro f
    unfold t_X0_warm_2
    refine loopG_ind (fun (T : Int32 → Hp → Option Hp) => ∀ (v1 : Int32) (σ : Hp), T v1 σ = some σ' → ∀ (H : Heap) (locs : List Loc), Wd D cy 55 shX ad A s.heap σ H locs → ∀ ls : Array Slot, lv_has ls 3 [(0, .ref (ad o)), (1, .int v1)] → Gv p l e us_X0_warm ({ frames := 2, cells := 0, slots := 0, locals := 45 } : Room) s m [.ref (ad o)] below meth c D cy 55 shX ad A σ' H locs (F0 m 2 ls [])) ?_ ?_ f
    · intro v1 σ h; exact absurd h (by simp)
    · intro k2 ih2
      have J56 : ∀ (v1 : Int32) (σ : Hp), t_X0_warm_56 N o k2 v1 σ = some σ' → ∀ (H : Heap) (locs : List Loc), Wd D cy 55 shX ad A s.heap σ H locs → ∀ ls : Array Slot, lv_has ls 3 [(0, .ref (ad o)), (1, .int v1)] → Gv p l e us_X0_warm ({ frames := 2, cells := 0, slots := 0, locals := 45 } : Room) s m [.ref (ad o)] below meth c D cy 55 shX ad A σ' H locs (F0 m 56 ls []) := by
        intro v1 σ h H locs hW ls hl
        unfold t_X0_warm_56 at h
        replace h := bx h
        obtain ⟨x1, ex1, h⟩ := h
        refine lv_iinc (v := x1) (lv' := [(1, .int x1), (0, .ref (ad o))]) hx hb dX0_warm_56 hl (k := 1) rfl (by rw [ex1]; rfl) (by decide) rfl (fun ls hln => ?_)
        replace hl := hln
        clear hln ex1
        refine lv_goto (tgt := 2) hx hb dX0_warm_59 (by decide) ?_
        exact ih2 _ _ h _ _ hW _ (lv_sub hl [1, 0] rfl)
      intro v1 σ h H locs hW ls hl
      refine lv_iload_n hx hb dX0_warm_2 rfl (lv_at hl 1 rfl) ?_
      refine lv_aload_n hx hb dX0_warm_3 rfl (lv_at hl 0 rfl) ?_
      refine r_geti hC hW 0 (isCoop_b ho 0 (Nat.zero_le _)) ho.2.1 rfl rfl (by decide) inUX0 (hts _ wd_7) rfl dX0_warm_4 ?_
      refine lv_icmp_ge (tgt := 62) hx hb dX0_warm_7 (by decide) (fun cq => ?_) (fun cq => ?_)
      · replace h := tp cq h
        exact r_vretW hC hr hlocks h hW dX0_warm_62
      · replace h := tn cq h
        refine lv_aload_n hx hb dX0_warm_10 rfl (lv_at hl 0 rfl) ?_
        refine lv_iload_n hx hb dX0_warm_11 rfl (lv_at hl 1 rfl) ?_
        refine lv_iconst (v := 1) hx hb dX0_warm_12 (by decide) ?_
        replace h := bd h
        obtain ⟨r2, hc, h⟩ := h
        refine r_calli hW (va_runV (As := [.int v1, .int 1]) (rest := []) hC.1 (c_X0_fact l D cy ad A o ho _ _ _ _ hc) (cwV 2 hts (gdV wd_18 wd_19 wd_20 wd_12 wd_17) rfl rfl rfl (by decide +kernel) ⟨Nat.le_of_ble_eq_true rfl, Nat.le_of_ble_eq_true rfl⟩) (r_preV hC hW (isCoop_b ho 0 (Nat.zero_le _)) ho.2.1 rfl) rfl rfl hl.1 rfl (lv_room (Nat.le_of_ble_eq_true rfl)) dX0_warm_13 ⟨Nat.zero_le _, Nat.zero_le _⟩) (fun H locs hWn => ?_)
        replace hW := hWn
        clear hWn hc
        refine lv_istore_n (lv' := [(2, .int r2), (0, .ref (ad o)), (1, .int v1)]) hx hb dX0_warm_16 rfl hl (by decide) rfl (fun ls hln => ?_)
        replace hl := hln
        clear hln
        refine lv_aload_n hx hb dX0_warm_17 rfl (lv_at hl 1 rfl) ?_
        refine lv_iload_n hx hb dX0_warm_18 rfl (lv_at hl 2 rfl) ?_
        replace h := bd h
        obtain ⟨r3, hc, h⟩ := h
        refine r_calli hW (va_runV (As := [.int v1]) (rest := []) hC.1 (c_X0_isWhole l D cy ad A o ho _ _ _ hc) (cwV 1 hts (gdV wd_9 wd_10 wd_11 wd_12 wd_8) rfl rfl rfl (by decide +kernel) ⟨Nat.le_of_ble_eq_true rfl, Nat.le_of_ble_eq_true rfl⟩) (r_preV hC hW (isCoop_b ho 0 (Nat.zero_le _)) ho.2.1 rfl) rfl rfl hl.1 rfl (lv_room (Nat.le_of_ble_eq_true rfl)) dX0_warm_19 ⟨Nat.zero_le _, Nat.zero_le _⟩) (fun H locs hWn => ?_)
        replace hW := hWn
        clear hWn hc
        refine lv_if_eq (tgt := 56) hx hb dX0_warm_22 (by decide) (fun cq => ?_) (fun cq => ?_)
        · replace h := tp cq h
          exact J56 _ _ h _ _ hW _ (lv_sub hl [1, 2] rfl)
        · replace h := tn cq h
          refine lv_aload_n hx hb dX0_warm_25 rfl (lv_at hl 1 rfl) ?_
          refine r_geti hC hW 1 (isCoop_b ho 0 (Nat.zero_le _)) ho.2.1 rfl rfl (by decide) inUX0 (hts _ wd_21) rfl dX0_warm_26 ?_
          refine lv_aload_n hx hb dX0_warm_29 rfl (lv_at hl 1 rfl) ?_
          refine lv_iload_n hx hb dX0_warm_30 rfl (lv_at hl 2 rfl) ?_
          refine lv_iconst (v := 3) hx hb dX0_warm_31 (by decide) ?_
          replace h := bd h
          obtain ⟨r4, hc, h⟩ := h
          refine r_calli hW (va_runV (As := [.int v1, .int 3]) (rest := [.int (σ o 1)]) hC.1 (c_X0_fact l D cy ad A o ho _ _ _ _ hc) (cwV 2 hts (gdV wd_18 wd_19 wd_20 wd_12 wd_17) rfl rfl rfl (by decide +kernel) ⟨Nat.le_of_ble_eq_true rfl, Nat.le_of_ble_eq_true rfl⟩) (r_preV hC hW (isCoop_b ho 0 (Nat.zero_le _)) ho.2.1 rfl) rfl rfl hl.1 rfl (lv_room (Nat.le_of_ble_eq_true rfl)) dX0_warm_32 ⟨Nat.zero_le _, Nat.zero_le _⟩) (fun H locs hWn => ?_)
          replace hW := hWn
          clear hWn hc
          replace h := bd h
          obtain ⟨r5, hc, h⟩ := h
          refine r_calli hW (va_runSN (As := [.int (σ o 1), .int r4]) (rest := []) hC.1 (c_X6_hasBit l D cy ad A _ _ _ _ hc) ⟨va_cnB 2 hts (gdN wd_31) rfl rfl rfl (NL.at hC.2.2 nw_RX0_71 rfl) (hts _ wd_5) (by decide +kernel) ⟨Nat.le_of_ble_eq_true rfl, Nat.le_of_ble_eq_true rfl⟩, hts _ wd_32, trivial⟩ (r_preS hC hW) rfl rfl hl.1 rfl (lv_room (Nat.le_of_ble_eq_true rfl)) dX0_warm_35 ⟨Nat.zero_le _, Nat.zero_le _⟩) (fun H locs hWn => ?_)
          replace hW := hWn
          clear hWn hc
          refine lv_if_eq (tgt := 56) hx hb dX0_warm_38 (by decide) (fun cq => ?_) (fun cq => ?_)
          · replace h := tp cq h
            exact J56 _ _ h _ _ hW _ (lv_sub hl [1, 2] rfl)
          · replace h := tn cq h
            refine lv_iload_n hx hb dX0_warm_41 rfl (lv_at hl 0 rfl) ?_
            refine lv_bipush (v := 9) hx hb dX0_warm_42 (by decide) ?_
            refine lv_icmp_ge (tgt := 56) hx hb dX0_warm_44 (by decide) (fun cq => ?_) (fun cq => ?_)
            · replace h := tp cq h
              exact J56 _ _ h _ _ hW _ (lv_sub hl [1, 2] rfl)
            · replace h := tn cq h
              refine lv_aload_n hx hb dX0_warm_47 rfl (lv_at hl 1 rfl) ?_
              refine lv_iload_n hx hb dX0_warm_48 rfl (lv_at hl 2 rfl) ?_
              refine lv_iconst (v := 1) hx hb dX0_warm_49 (by decide) ?_
              refine lv_iload_n hx hb dX0_warm_50 rfl (lv_at hl 0 rfl) ?_
              refine lv_iconst (v := 1) hx hb dX0_warm_51 (by decide) ?_
              refine lv_iadd hx hb dX0_warm_52 ?_
              replace h := bd h
              obtain ⟨σ6, hc, h⟩ := h
              refine r_callv hW (va_runV (As := [.int v1, .int 1, .int (r2 + 1)]) (rest := []) hC.1 (c_X0_setFact l D cy ad A o ho _ _ _ _ _ hc) (cwV 3 hts (gdV wd_40 wd_41 wd_42 wd_12 wd_39) rfl rfl rfl (by decide +kernel) ⟨Nat.le_of_ble_eq_true rfl, Nat.le_of_ble_eq_true rfl⟩) (r_preV hC hW (isCoop_b ho 0 (Nat.zero_le _)) ho.2.1 rfl) rfl rfl hl.1 rfl (lv_room (Nat.le_of_ble_eq_true rfl)) dX0_warm_53 ⟨Nat.zero_le _, Nat.zero_le _⟩) (fun H locs hWn => ?_)
              replace hW := hWn
              clear hWn hc
              exact J56 _ _ h _ _ hW _ (lv_sub hl [1, 2] rfl)
  refine lv_iconst (v := 0) hx hb dX0_warm_0 (by decide) ?_
  refine lv_istore_n (lv' := [(1, .int 0), (0, .ref (ad o))]) hx hb dX0_warm_1 rfl hl (by decide) rfl (fun ls hln => ?_)
  replace hl := hln
  clear hln
  exact L2 _ _ _ h _ _ hW _ (lv_sub hl [1, 0] rfl)
set_option maxHeartbeats 4000000 in
set_option maxRecDepth 100000 in
theorem c_X0_passHour (l : Launch) (D : va_G) (cy : ClassId × ClassId) (ad : Nat → Nat) (A : Nat → Prop) (N : Nat) (o : Nat) (ho : isCoop o) (σ : Hp) (r : Int32) (σ' : Hp) (h : t_X0_passHour N o σ = some (r, σ')) : Ci l yX0_passHour us_X0_passHour ({ frames := 3, cells := 0, slots := 0, locals := 69 } : Room) D cy 55 shX ad A [.ref (ad o)] σ r σ' := by
  unfold t_X0_passHour at h
  refine Met.ofW (cc := cX0_passHour) (maxL := 3) (ret := (some .int)) (by decide) rfl ?_
  intro p e s m args below meth c s₁ B hml hv
  obtain ⟨rfl, hP, hK, hD, hA, hN⟩ := hv
  have hx := B.exec
  have hb := B.bytes
  have hr := B.returns
  have hlocks := B.notSynchronized
  have hts : ∀ w ∈ wsU, w.before _ s = true := fun w h => atoms_spec (ws := us_X0_passHour) B.pre w (List.mem_cons_of_mem _ h)
  have hown : s.vm.findClass RX0 = some m.cls := findClass_of_methodNamed B.named
  have hC : Cx p m c cX0_passHour 3 s _ wsU RX0 D cy := ⟨⟨hx, hb, hml, hown, hts⟩, hK, hN⟩
  have hW : Wd D cy 55 shX ad A s.heap σ s.heap [] := ⟨hP, hD, va_S.rf, hA⟩
  have hl := lv_entry ([.ref (ad o)]) (n := 3) (Nat.le_of_ble_eq_true rfl)
  rw [lg_entry_eq]
  generalize (lg_sl ([.ref (ad o)]) ++ List.replicate (3 - (lg_sl ([.ref (ad o)])).length) Slot.unset).toArray = ls at hl ⊢
  have hl : lv_has ls 3 [(0, .ref (ad o))] := hl
  have L12 : ∀ (f : Nat) (v1 : Int32) (v2 : Int32) (σ : Hp), t_X0_passHour_12 N o f v1 v2 σ = some (r, σ') → ∀ (H : Heap) (locs : List Loc), Wd D cy 55 shX ad A s.heap σ H locs → ∀ ls : Array Slot, lv_has ls 3 [(0, .ref (ad o)), (1, .int v1), (2, .int v2)] → Gi p l e us_X0_passHour ({ frames := 3, cells := 0, slots := 0, locals := 69 } : Room) s m [.ref (ad o)] below meth c D cy 55 shX ad A r σ' H locs (F0 m 12 ls []) := by
    intro f
    unfold t_X0_passHour_12
    refine loopG_ind (fun (T : Int32 → Int32 → Hp → Option (Int32 × Hp)) => ∀ (v1 : Int32) (v2 : Int32) (σ : Hp), T v1 v2 σ = some (r, σ') → ∀ (H : Heap) (locs : List Loc), Wd D cy 55 shX ad A s.heap σ H locs → ∀ ls : Array Slot, lv_has ls 3 [(0, .ref (ad o)), (1, .int v1), (2, .int v2)] → Gi p l e us_X0_passHour ({ frames := 3, cells := 0, slots := 0, locals := 69 } : Room) s m [.ref (ad o)] below meth c D cy 55 shX ad A r σ' H locs (F0 m 12 ls [])) ?_ ?_ f
    · intro v1 v2 σ h; exact absurd h (by simp)
    · intro k12 ih12
      have J35 : ∀ (v1 : Int32) (v2 : Int32) (σ : Hp), t_X0_passHour_35 N o k12 v1 v2 σ = some (r, σ') → ∀ (H : Heap) (locs : List Loc), Wd D cy 55 shX ad A s.heap σ H locs → ∀ ls : Array Slot, lv_has ls 3 [(0, .ref (ad o)), (1, .int v1), (2, .int v2)] → Gi p l e us_X0_passHour ({ frames := 3, cells := 0, slots := 0, locals := 69 } : Room) s m [.ref (ad o)] below meth c D cy 55 shX ad A r σ' H locs (F0 m 35 ls []) := by
        intro v1 v2 σ h H locs hW ls hl
        unfold t_X0_passHour_35 at h
        replace h := bx h
        obtain ⟨x1, ex1, h⟩ := h
        refine lv_iinc (v := x1) (lv' := [(2, .int x1), (0, .ref (ad o)), (1, .int v1)]) hx hb dX0_passHour_35 hl (k := 2) rfl (by rw [ex1]; rfl) (by decide) rfl (fun ls hln => ?_)
        replace hl := hln
        clear hln ex1
        refine lv_goto (tgt := 12) hx hb dX0_passHour_38 (by decide) ?_
        exact ih12 _ _ _ h _ _ hW _ (lv_sub hl [1, 2, 0] rfl)
      intro v1 v2 σ h H locs hW ls hl
      refine lv_iload_n hx hb dX0_passHour_12 rfl (lv_at hl 2 rfl) ?_
      refine lv_aload_n hx hb dX0_passHour_13 rfl (lv_at hl 0 rfl) ?_
      refine r_geti hC hW 0 (isCoop_b ho 0 (Nat.zero_le _)) ho.2.1 rfl rfl (by decide) inUX0 (hts _ wd_7) rfl dX0_passHour_14 ?_
      refine lv_icmp_ge (tgt := 41) hx hb dX0_passHour_17 (by decide) (fun cq => ?_) (fun cq => ?_)
      · replace h := tp cq h
        refine lv_iload_n hx hb dX0_passHour_41 rfl (lv_at hl 1 rfl) ?_
        exact r_iretW hC hr hlocks h hW dX0_passHour_42
      · replace h := tn cq h
        refine lv_iload_n hx hb dX0_passHour_20 rfl (lv_at hl 1 rfl) ?_
        refine lv_iload_n hx hb dX0_passHour_21 rfl (lv_at hl 2 rfl) ?_
        replace h := bd h
        obtain ⟨r2, hc, h⟩ := h
        refine r_calli hW (va_runSN (As := [.int v1, .int v2]) (rest := []) hC.1 (c_X6_hasBit l D cy ad A _ _ _ _ hc) ⟨va_cnB 2 hts (gdN wd_31) rfl rfl rfl (NL.at hC.2.2 nw_RX0_71 rfl) (hts _ wd_5) (by decide +kernel) ⟨Nat.le_of_ble_eq_true rfl, Nat.le_of_ble_eq_true rfl⟩, hts _ wd_32, trivial⟩ (r_preS hC hW) rfl rfl hl.1 rfl (lv_room (Nat.le_of_ble_eq_true rfl)) dX0_passHour_22 ⟨Nat.zero_le _, Nat.zero_le _⟩) (fun H locs hWn => ?_)
        replace hW := hWn
        clear hWn hc
        refine lv_if_eq (tgt := 35) hx hb dX0_passHour_25 (by decide) (fun cq => ?_) (fun cq => ?_)
        · replace h := tp cq h
          exact J35 _ _ _ h _ _ hW _ (lv_sub hl [0, 1, 2] rfl)
        · replace h := tn cq h
          refine lv_aload_n hx hb dX0_passHour_28 rfl (lv_at hl 0 rfl) ?_
          refine lv_iload_n hx hb dX0_passHour_29 rfl (lv_at hl 2 rfl) ?_
          refine lv_iconst (v := 4) hx hb dX0_passHour_30 (by decide) ?_
          refine lv_iconst (v := 1) hx hb dX0_passHour_31 (by decide) ?_
          replace h := bd h
          obtain ⟨σ3, hc, h⟩ := h
          refine r_callv hW (va_runV (As := [.int v2, .int 4, .int 1]) (rest := []) hC.1 (c_X0_setFact l D cy ad A o ho _ _ _ _ _ hc) (cwV 3 hts (gdV wd_40 wd_41 wd_42 wd_12 wd_39) rfl rfl rfl (by decide +kernel) ⟨Nat.le_of_ble_eq_true rfl, Nat.le_of_ble_eq_true rfl⟩) (r_preV hC hW (isCoop_b ho 0 (Nat.zero_le _)) ho.2.1 rfl) rfl rfl hl.1 rfl (lv_room (Nat.le_of_ble_eq_true rfl)) dX0_passHour_32 ⟨Nat.zero_le _, Nat.zero_le _⟩) (fun H locs hWn => ?_)
          replace hW := hWn
          clear hWn hc
          exact J35 _ _ _ h _ _ hW _ (lv_sub hl [0, 1, 2] rfl)
  refine lv_aload_n hx hb dX0_passHour_0 rfl (lv_at hl 0 rfl) ?_
  replace h := bd h
  obtain ⟨σ4, hc, h⟩ := h
  refine r_callv hW (va_runV (As := []) (rest := []) hC.1 (c_X0_warm l D cy ad A N o ho _ _ hc) (cwV 0 hts (gdV wd_44 wd_45 wd_46 wd_12 wd_43) rfl rfl rfl (by decide +kernel) ⟨Nat.le_of_ble_eq_true rfl, Nat.le_of_ble_eq_true rfl⟩) (r_preV hC hW (isCoop_b ho 0 (Nat.zero_le _)) ho.2.1 rfl) rfl rfl hl.1 rfl (lv_room (Nat.le_of_ble_eq_true rfl)) dX0_passHour_1 ⟨Nat.zero_le _, Nat.zero_le _⟩) (fun H locs hWn => ?_)
  replace hW := hWn
  clear hWn hc
  refine lv_aload_n hx hb dX0_passHour_4 rfl (lv_at hl 0 rfl) ?_
  refine lv_iconst (v := 0) hx hb dX0_passHour_5 (by decide) ?_
  replace h := bd h
  obtain ⟨r5, hc, h⟩ := h
  refine r_calli hW (va_runV (As := [.int 0]) (rest := []) hC.1 (c_X0_hatchingIfHeated l D cy ad A N o ho _ _ _ hc) (cwV 1 hts (gdV wd_48 wd_49 wd_50 wd_12 wd_47) rfl rfl rfl (by decide +kernel) ⟨Nat.le_of_ble_eq_true rfl, Nat.le_of_ble_eq_true rfl⟩) (r_preV hC hW (isCoop_b ho 0 (Nat.zero_le _)) ho.2.1 rfl) rfl rfl hl.1 rfl (lv_room (Nat.le_of_ble_eq_true rfl)) dX0_passHour_6 ⟨Nat.zero_le _, Nat.zero_le _⟩) (fun H locs hWn => ?_)
  replace hW := hWn
  clear hWn hc
  refine lv_istore_n (lv' := [(1, .int r5), (0, .ref (ad o))]) hx hb dX0_passHour_9 rfl hl (by decide) rfl (fun ls hln => ?_)
  replace hl := hln
  clear hln
  refine lv_iconst (v := 0) hx hb dX0_passHour_10 (by decide) ?_
  refine lv_istore_n (lv' := [(2, .int 0), (1, .int r5), (0, .ref (ad o))]) hx hb dX0_passHour_11 rfl hl (by decide) rfl (fun ls hln => ?_)
  replace hl := hln
  clear hln
  exact L12 _ _ _ _ h _ _ hW _ (lv_sub hl [2, 1, 0] rfl)
set_option maxHeartbeats 4000000 in
set_option maxRecDepth 100000 in
theorem c_X0_startWith (l : Launch) (D : va_G) (cy : ClassId × ClassId) (ad : Nat → Nat) (A : Nat → Prop) (N : Nat) (o : Nat) (ho : isCoop o) (p0 : Int32) (σ : Hp) (σ' : Hp) (h : t_X0_startWith N o p0 σ = some σ') : Cv l yX0_startWith us_X0_startWith ({ frames := 2, cells := 0, slots := 0, locals := 45 } : Room) D cy 55 shX ad A [.ref (ad o), .int p0] σ σ' := by
  unfold t_X0_startWith at h
  refine Met.ofW (cc := cX0_startWith) (maxL := 3) (ret := none) (by decide) rfl ?_
  intro p e s m args below meth c s₁ B hml hv
  obtain ⟨rfl, hP, hK, hD, hA, hN⟩ := hv
  have hx := B.exec
  have hb := B.bytes
  have hr := B.returns
  have hlocks := B.notSynchronized
  have hts : ∀ w ∈ wsU, w.before _ s = true := fun w h => atoms_spec (ws := us_X0_startWith) B.pre w (List.mem_cons_of_mem _ h)
  have hown : s.vm.findClass RX0 = some m.cls := findClass_of_methodNamed B.named
  have hC : Cx p m c cX0_startWith 3 s _ wsU RX0 D cy := ⟨⟨hx, hb, hml, hown, hts⟩, hK, hN⟩
  have hW : Wd D cy 55 shX ad A s.heap σ s.heap [] := ⟨hP, hD, va_S.rf, hA⟩
  have hl := lv_entry ([.ref (ad o), .int p0]) (n := 3) (Nat.le_of_ble_eq_true rfl)
  rw [lg_entry_eq]
  generalize (lg_sl ([.ref (ad o), .int p0]) ++ List.replicate (3 - (lg_sl ([.ref (ad o), .int p0])).length) Slot.unset).toArray = ls at hl ⊢
  have hl : lv_has ls 3 [(0, .ref (ad o)), (1, .int p0)] := hl
  have L21 : ∀ (f : Nat) (v2 : Int32) (σ : Hp), t_X0_startWith_21 N o f v2 σ = some σ' → ∀ (H : Heap) (locs : List Loc), Wd D cy 55 shX ad A s.heap σ H locs → ∀ ls : Array Slot, lv_has ls 3 [(0, .ref (ad o)), (2, .int v2)] → Gv p l e us_X0_startWith ({ frames := 2, cells := 0, slots := 0, locals := 45 } : Room) s m [.ref (ad o), .int p0] below meth c D cy 55 shX ad A σ' H locs (F0 m 21 ls []) := by
    intro f
    unfold t_X0_startWith_21
    refine loopG_ind (fun (T : Int32 → Hp → Option Hp) => ∀ (v2 : Int32) (σ : Hp), T v2 σ = some σ' → ∀ (H : Heap) (locs : List Loc), Wd D cy 55 shX ad A s.heap σ H locs → ∀ ls : Array Slot, lv_has ls 3 [(0, .ref (ad o)), (2, .int v2)] → Gv p l e us_X0_startWith ({ frames := 2, cells := 0, slots := 0, locals := 45 } : Room) s m [.ref (ad o), .int p0] below meth c D cy 55 shX ad A σ' H locs (F0 m 21 ls [])) ?_ ?_ f
    · intro v2 σ h; exact absurd h (by simp)
    · intro k21 ih21
      intro v2 σ h H locs hW ls hl
      refine lv_iload_n hx hb dX0_startWith_21 rfl (lv_at hl 1 rfl) ?_
      refine lv_bipush (v := 7) hx hb dX0_startWith_22 (by decide) ?_
      refine lv_icmp_ge (tgt := 80) hx hb dX0_startWith_24 (by decide) (fun cq => ?_) (fun cq => ?_)
      · replace h := tp cq h
        exact r_vretW hC hr hlocks h hW dX0_startWith_80
      · replace h := tn cq h
        refine lv_aload_n hx hb dX0_startWith_27 rfl (lv_at hl 0 rfl) ?_
        refine r_getr hC hW 2 (isCoop_b ho 0 (Nat.zero_le _)) ho.2.1 rfl rfl (by decide) inUX0 (hts _ wd_22) rfl dX0_startWith_28 ?_
        refine lv_iload_n hx hb dX0_startWith_31 rfl (lv_at hl 1 rfl) ?_
        refine lv_iload_n hx hb dX0_startWith_32 rfl (lv_at hl 1 rfl) ?_
        replace h := bd h
        obtain ⟨σ1, hc, h⟩ := h
        refine r_callv hW (va_runSN (As := [.ref (ad (o + 1)), .int v2, .int v2]) (rest := []) hC.1 (c_X6_put l D cy ad A (o + 1) 7 ⟨isCoop_b ho 1 (Nat.le_of_ble_eq_true rfl), ho.2.2.1⟩ _ _ _ _ hc) ⟨va_cnB 3 hts (gdN wd_37) rfl rfl rfl (NL.at hC.2.2 nw_RX0_34 rfl) (hts _ wd_5) (by decide +kernel) ⟨Nat.le_of_ble_eq_true rfl, Nat.le_of_ble_eq_true rfl⟩, hts _ wd_38, trivial⟩ (r_preS hC hW) rfl rfl hl.1 rfl (lv_room (Nat.le_of_ble_eq_true rfl)) dX0_startWith_33 ⟨Nat.zero_le _, Nat.zero_le _⟩) (fun H locs hWn => ?_)
        replace hW := hWn
        clear hWn hc
        refine lv_aload_n hx hb dX0_startWith_36 rfl (lv_at hl 0 rfl) ?_
        refine lv_iload_n hx hb dX0_startWith_37 rfl (lv_at hl 1 rfl) ?_
        refine lv_iconst (v := 0) hx hb dX0_startWith_38 (by decide) ?_
        refine lv_iconst (v := 3) hx hb dX0_startWith_39 (by decide) ?_
        replace h := bd h
        obtain ⟨σ2, hc, h⟩ := h
        refine r_callv hW (va_runV (As := [.int v2, .int 0, .int 3]) (rest := []) hC.1 (c_X0_setFact l D cy ad A o ho _ _ _ _ _ hc) (cwV 3 hts (gdV wd_40 wd_41 wd_42 wd_12 wd_39) rfl rfl rfl (by decide +kernel) ⟨Nat.le_of_ble_eq_true rfl, Nat.le_of_ble_eq_true rfl⟩) (r_preV hC hW (isCoop_b ho 0 (Nat.zero_le _)) ho.2.1 rfl) rfl rfl hl.1 rfl (lv_room (Nat.le_of_ble_eq_true rfl)) dX0_startWith_40 ⟨Nat.zero_le _, Nat.zero_le _⟩) (fun H locs hWn => ?_)
        replace hW := hWn
        clear hWn hc
        refine lv_aload_n hx hb dX0_startWith_43 rfl (lv_at hl 0 rfl) ?_
        refine lv_iload_n hx hb dX0_startWith_44 rfl (lv_at hl 1 rfl) ?_
        refine lv_iconst (v := 1) hx hb dX0_startWith_45 (by decide) ?_
        refine lv_iconst (v := 0) hx hb dX0_startWith_46 (by decide) ?_
        replace h := bd h
        obtain ⟨σ3, hc, h⟩ := h
        refine r_callv hW (va_runV (As := [.int v2, .int 1, .int 0]) (rest := []) hC.1 (c_X0_setFact l D cy ad A o ho _ _ _ _ _ hc) (cwV 3 hts (gdV wd_40 wd_41 wd_42 wd_12 wd_39) rfl rfl rfl (by decide +kernel) ⟨Nat.le_of_ble_eq_true rfl, Nat.le_of_ble_eq_true rfl⟩) (r_preV hC hW (isCoop_b ho 0 (Nat.zero_le _)) ho.2.1 rfl) rfl rfl hl.1 rfl (lv_room (Nat.le_of_ble_eq_true rfl)) dX0_startWith_47 ⟨Nat.zero_le _, Nat.zero_le _⟩) (fun H locs hWn => ?_)
        replace hW := hWn
        clear hWn hc
        refine lv_aload_n hx hb dX0_startWith_50 rfl (lv_at hl 0 rfl) ?_
        refine lv_iload_n hx hb dX0_startWith_51 rfl (lv_at hl 1 rfl) ?_
        refine lv_iconst (v := 2) hx hb dX0_startWith_52 (by decide) ?_
        refine lv_iconst (v := 1) hx hb dX0_startWith_53 (by decide) ?_
        replace h := bd h
        obtain ⟨σ4, hc, h⟩ := h
        refine r_callv hW (va_runV (As := [.int v2, .int 2, .int 1]) (rest := []) hC.1 (c_X0_setFact l D cy ad A o ho _ _ _ _ _ hc) (cwV 3 hts (gdV wd_40 wd_41 wd_42 wd_12 wd_39) rfl rfl rfl (by decide +kernel) ⟨Nat.le_of_ble_eq_true rfl, Nat.le_of_ble_eq_true rfl⟩) (r_preV hC hW (isCoop_b ho 0 (Nat.zero_le _)) ho.2.1 rfl) rfl rfl hl.1 rfl (lv_room (Nat.le_of_ble_eq_true rfl)) dX0_startWith_54 ⟨Nat.zero_le _, Nat.zero_le _⟩) (fun H locs hWn => ?_)
        replace hW := hWn
        clear hWn hc
        refine lv_aload_n hx hb dX0_startWith_57 rfl (lv_at hl 0 rfl) ?_
        refine lv_iload_n hx hb dX0_startWith_58 rfl (lv_at hl 1 rfl) ?_
        refine lv_iconst (v := 3) hx hb dX0_startWith_59 (by decide) ?_
        refine lv_iload_n hx hb dX0_startWith_60 rfl (lv_at hl 1 rfl) ?_
        refine lv_bipush (v := 6) hx hb dX0_startWith_61 (by decide) ?_
        refine lv_irem hx hb dX0_startWith_63 (by decide) ?_
        replace h := bd h
        obtain ⟨σ5, hc, h⟩ := h
        refine r_callv hW (va_runV (As := [.int v2, .int 3, .int (v2 - v2 / 6 * 6)]) (rest := []) hC.1 (c_X0_setFact l D cy ad A o ho _ _ _ _ _ hc) (cwV 3 hts (gdV wd_40 wd_41 wd_42 wd_12 wd_39) rfl rfl rfl (by decide +kernel) ⟨Nat.le_of_ble_eq_true rfl, Nat.le_of_ble_eq_true rfl⟩) (r_preV hC hW (isCoop_b ho 0 (Nat.zero_le _)) ho.2.1 rfl) rfl rfl hl.1 rfl (lv_room (Nat.le_of_ble_eq_true rfl)) dX0_startWith_64 ⟨Nat.zero_le _, Nat.zero_le _⟩) (fun H locs hWn => ?_)
        replace hW := hWn
        clear hWn hc
        refine lv_aload_n hx hb dX0_startWith_67 rfl (lv_at hl 0 rfl) ?_
        refine lv_iload_n hx hb dX0_startWith_68 rfl (lv_at hl 1 rfl) ?_
        refine lv_iconst (v := 4) hx hb dX0_startWith_69 (by decide) ?_
        refine lv_iconst (v := 0) hx hb dX0_startWith_70 (by decide) ?_
        replace h := bd h
        obtain ⟨σ6, hc, h⟩ := h
        refine r_callv hW (va_runV (As := [.int v2, .int 4, .int 0]) (rest := []) hC.1 (c_X0_setFact l D cy ad A o ho _ _ _ _ _ hc) (cwV 3 hts (gdV wd_40 wd_41 wd_42 wd_12 wd_39) rfl rfl rfl (by decide +kernel) ⟨Nat.le_of_ble_eq_true rfl, Nat.le_of_ble_eq_true rfl⟩) (r_preV hC hW (isCoop_b ho 0 (Nat.zero_le _)) ho.2.1 rfl) rfl rfl hl.1 rfl (lv_room (Nat.le_of_ble_eq_true rfl)) dX0_startWith_71 ⟨Nat.zero_le _, Nat.zero_le _⟩) (fun H locs hWn => ?_)
        replace hW := hWn
        clear hWn hc
        replace h := bx h
        obtain ⟨x7, ex7, h⟩ := h
        refine lv_iinc (v := x7) (lv' := [(2, .int x7), (0, .ref (ad o))]) hx hb dX0_startWith_74 hl (k := 1) rfl (by rw [ex7]; rfl) (by decide) rfl (fun ls hln => ?_)
        replace hl := hln
        clear hln ex7
        refine lv_goto (tgt := 21) hx hb dX0_startWith_77 (by decide) ?_
        exact ih21 _ _ h _ _ hW _ (lv_sub hl [1, 0] rfl)
  refine lv_aload_n hx hb dX0_startWith_0 rfl (lv_at hl 0 rfl) ?_
  refine lv_iconst (v := 0) hx hb dX0_startWith_1 (by decide) ?_
  refine lv_iload_n hx hb dX0_startWith_2 rfl (lv_at hl 1 rfl) ?_
  refine lv_bipush (v := 7) hx hb dX0_startWith_3 (by decide) ?_
  refine va_mmin hx hb (hml.trans hl.1.symm) hown (hts _ wd_51) (hts _ wd_52) (hts _ wd_35) (hts _ wd_53) (Nat.le_of_ble_eq_true rfl) (Nat.le_of_ble_eq_true rfl) (Nat.le_refl _) (Nat.le_refl _) dX0_startWith_5 ?_
  refine va_mmax hx hb (hml.trans hl.1.symm) hown (hts _ wd_33) (hts _ wd_34) (hts _ wd_35) (hts _ wd_36) (Nat.le_of_ble_eq_true rfl) (Nat.le_of_ble_eq_true rfl) (Nat.le_refl _) (Nat.le_refl _) dX0_startWith_8 ?_
  refine r_put hC hW 0 (isCoop_b ho 0 (Nat.zero_le _)) ho.2.1 rfl rfl (by decide) inUX0 tyX0 tyX0_ok nmX0 (hts _ wd_7) rfl rfl ⟨rfl, rfl⟩ dX0_startWith_11 (fun σ8 eσ8 H locs hWn => ?_)
  replace h := bn eσ8 h
  replace hW := hWn
  clear hWn eσ8
  refine lv_aload_n hx hb dX0_startWith_14 rfl (lv_at hl 0 rfl) ?_
  refine lv_iconst (v := 0) hx hb dX0_startWith_15 (by decide) ?_
  refine r_put hC hW 1 (isCoop_b ho 0 (Nat.zero_le _)) ho.2.1 rfl rfl (by decide) inUX0 tyX0 tyX0_ok nmX0 (hts _ wd_21) rfl rfl ⟨rfl, rfl⟩ dX0_startWith_16 (fun σ9 eσ9 H locs hWn => ?_)
  replace h := bn eσ9 h
  replace hW := hWn
  clear hWn eσ9
  refine lv_iconst (v := 0) hx hb dX0_startWith_19 (by decide) ?_
  refine lv_istore_n (lv' := [(2, .int 0), (0, .ref (ad o)), (1, .int p0)]) hx hb dX0_startWith_20 rfl hl (by decide) rfl (fun ls hln => ?_)
  replace hl := hln
  clear hln
  exact L21 _ _ _ h _ _ hW _ (lv_sub hl [1, 0] rfl)
set_option maxHeartbeats 4000000 in
set_option maxRecDepth 100000 in
theorem c_X0_stopPlace (l : Launch) (D : va_G) (cy : ClassId × ClassId) (ad : Nat → Nat) (A : Nat → Prop) (N : Nat) (o : Nat) (ho : isCoop o) (σ : Hp) (r : Int32) (h : t_X0_stopPlace N o σ = some r) : Ci l yX0_stopPlace us_X0_stopPlace ({ frames := 2, cells := 0, slots := 0, locals := 43 } : Room) D cy 55 shX ad A [.ref (ad o)] σ r σ := by
  unfold t_X0_stopPlace at h
  refine Met.ofW (cc := cX0_stopPlace) (maxL := 2) (ret := (some .int)) (by decide) rfl ?_
  intro p e s m args below meth c s₁ B hml hv
  obtain ⟨rfl, hP, hK, hD, hA, hN⟩ := hv
  have hx := B.exec
  have hb := B.bytes
  have hr := B.returns
  have hlocks := B.notSynchronized
  have hts : ∀ w ∈ wsU, w.before _ s = true := fun w h => atoms_spec (ws := us_X0_stopPlace) B.pre w (List.mem_cons_of_mem _ h)
  have hown : s.vm.findClass RX0 = some m.cls := findClass_of_methodNamed B.named
  have hC : Cx p m c cX0_stopPlace 2 s _ wsU RX0 D cy := ⟨⟨hx, hb, hml, hown, hts⟩, hK, hN⟩
  have hW : Wd D cy 55 shX ad A s.heap σ s.heap [] := ⟨hP, hD, va_S.rf, hA⟩
  have hl := lv_entry ([.ref (ad o)]) (n := 2) (Nat.le_of_ble_eq_true rfl)
  rw [lg_entry_eq]
  generalize (lg_sl ([.ref (ad o)]) ++ List.replicate (2 - (lg_sl ([.ref (ad o)])).length) Slot.unset).toArray = ls at hl ⊢
  have hl : lv_has ls 2 [(0, .ref (ad o))] := hl
  have L2 : ∀ (f : Nat) (v1 : Int32), t_X0_stopPlace_2 N o f v1 σ = some r → ∀ (H : Heap) (locs : List Loc), Wd D cy 55 shX ad A s.heap σ H locs → ∀ ls : Array Slot, lv_has ls 2 [(0, .ref (ad o)), (1, .int v1)] → Gi p l e us_X0_stopPlace ({ frames := 2, cells := 0, slots := 0, locals := 43 } : Room) s m [.ref (ad o)] below meth c D cy 55 shX ad A r σ H locs (F0 m 2 ls []) := by
    intro f
    unfold t_X0_stopPlace_2
    refine loopG_ind (fun (T : Int32 → Hp → Option Int32) => ∀ (v1 : Int32), T v1 σ = some r → ∀ (H : Heap) (locs : List Loc), Wd D cy 55 shX ad A s.heap σ H locs → ∀ ls : Array Slot, lv_has ls 2 [(0, .ref (ad o)), (1, .int v1)] → Gi p l e us_X0_stopPlace ({ frames := 2, cells := 0, slots := 0, locals := 43 } : Room) s m [.ref (ad o)] below meth c D cy 55 shX ad A r σ H locs (F0 m 2 ls [])) ?_ ?_ f
    · intro v1 h; exact absurd h (by simp)
    · intro k2 ih2
      intro v1 h H locs hW ls hl
      refine lv_iload_n hx hb dX0_stopPlace_2 rfl (lv_at hl 1 rfl) ?_
      refine lv_aload_n hx hb dX0_stopPlace_3 rfl (lv_at hl 0 rfl) ?_
      refine r_geti hC hW 0 (isCoop_b ho 0 (Nat.zero_le _)) ho.2.1 rfl rfl (by decide) inUX0 (hts _ wd_7) rfl dX0_stopPlace_4 ?_
      refine lv_icmp_ge (tgt := 35) hx hb dX0_stopPlace_7 (by decide) (fun cq => ?_) (fun cq => ?_)
      · replace h := tp cq h
        refine lv_aload_n hx hb dX0_stopPlace_35 rfl (lv_at hl 0 rfl) ?_
        refine r_geti hC hW 0 (isCoop_b ho 0 (Nat.zero_le _)) ho.2.1 rfl rfl (by decide) inUX0 (hts _ wd_7) rfl dX0_stopPlace_36 ?_
        exact r_iretP hC hr hlocks h hW dX0_stopPlace_39
      · replace h := tn cq h
        refine lv_aload_n hx hb dX0_stopPlace_10 rfl (lv_at hl 0 rfl) ?_
        refine lv_aload_n hx hb dX0_stopPlace_11 rfl (lv_at hl 0 rfl) ?_
        refine r_getr hC hW 2 (isCoop_b ho 0 (Nat.zero_le _)) ho.2.1 rfl rfl (by decide) inUX0 (hts _ wd_22) rfl dX0_stopPlace_12 ?_
        refine lv_iload_n hx hb dX0_stopPlace_15 rfl (lv_at hl 1 rfl) ?_
        replace h := bd h
        obtain ⟨r1, hc, h⟩ := h
        refine r_calli hW (va_runSN (As := [.ref (ad (o + 1)), .int v1]) (rest := [.ref (ad o)]) hC.1 (c_X6_at l D cy ad A (o + 1) 7 ⟨isCoop_b ho 1 (Nat.le_of_ble_eq_true rfl), ho.2.2.1⟩ _ _ _ hc) ⟨va_cnB 2 hts (gdN wd_4) rfl rfl rfl (NL.at hC.2.2 nw_RX0_46 rfl) (hts _ wd_5) (by decide +kernel) ⟨Nat.le_of_ble_eq_true rfl, Nat.le_of_ble_eq_true rfl⟩, hts _ wd_6, trivial⟩ (r_preS hC hW) rfl rfl hl.1 rfl (lv_room (Nat.le_of_ble_eq_true rfl)) dX0_stopPlace_16 ⟨Nat.zero_le _, Nat.zero_le _⟩) (fun H locs hWn => ?_)
        replace hW := hWn
        clear hWn hc
        refine lv_iconst (v := 4) hx hb dX0_stopPlace_19 (by decide) ?_
        replace h := bd h
        obtain ⟨r2, hc, h⟩ := h
        refine r_calli hW (va_runV (As := [.int r1, .int 4]) (rest := []) hC.1 (c_X0_fact l D cy ad A o ho _ _ _ _ hc) (cwV 2 hts (gdV wd_18 wd_19 wd_20 wd_12 wd_17) rfl rfl rfl (by decide +kernel) ⟨Nat.le_of_ble_eq_true rfl, Nat.le_of_ble_eq_true rfl⟩) (r_preV hC hW (isCoop_b ho 0 (Nat.zero_le _)) ho.2.1 rfl) rfl rfl hl.1 rfl (lv_room (Nat.le_of_ble_eq_true rfl)) dX0_stopPlace_20 ⟨Nat.zero_le _, Nat.zero_le _⟩) (fun H locs hWn => ?_)
        replace hW := hWn
        clear hWn hc
        refine lv_iconst (v := 1) hx hb dX0_stopPlace_23 (by decide) ?_
        refine lv_icmp_eq (tgt := 29) hx hb dX0_stopPlace_24 (by decide) (fun cq => ?_) (fun cq => ?_)
        · replace h := tp cq h
          replace h := bx h
          obtain ⟨x3, ex3, h⟩ := h
          refine lv_iinc (v := x3) (lv' := [(1, .int x3), (0, .ref (ad o))]) hx hb dX0_stopPlace_29 hl (k := 1) rfl (by rw [ex3]; rfl) (by decide) rfl (fun ls hln => ?_)
          replace hl := hln
          clear hln ex3
          refine lv_goto (tgt := 2) hx hb dX0_stopPlace_32 (by decide) ?_
          exact ih2 _ h _ _ hW _ (lv_sub hl [1, 0] rfl)
        · replace h := tn cq h
          refine lv_iload_n hx hb dX0_stopPlace_27 rfl (lv_at hl 1 rfl) ?_
          exact r_iretP hC hr hlocks h hW dX0_stopPlace_28
  refine lv_iconst (v := 0) hx hb dX0_stopPlace_0 (by decide) ?_
  refine lv_istore_n (lv' := [(1, .int 0), (0, .ref (ad o))]) hx hb dX0_stopPlace_1 rfl hl (by decide) rfl (fun ls hln => ?_)
  replace hl := hln
  clear hln
  exact L2 _ _ h _ _ hW _ (lv_sub hl [1, 0] rfl)
set_option maxHeartbeats 4000000 in
set_option maxRecDepth 100000 in
theorem c_X0_turnStove (l : Launch) (D : va_G) (cy : ClassId × ClassId) (ad : Nat → Nat) (A : Nat → Prop) (o : Nat) (ho : isCoop o) (p0 : Int32) (σ : Hp) (σ' : Hp) (h : t_X0_turnStove o p0 σ = some σ') : Cv l yX0_turnStove us_X0_turnStove ({ frames := 1, cells := 0, slots := 0, locals := 20 } : Room) D cy 55 shX ad A [.ref (ad o), .int p0] σ σ' := by
  unfold t_X0_turnStove at h
  refine Met.ofW (cc := cX0_turnStove) (maxL := 2) (ret := none) (by decide) rfl ?_
  intro p e s m args below meth c s₁ B hml hv
  obtain ⟨rfl, hP, hK, hD, hA, hN⟩ := hv
  have hx := B.exec
  have hb := B.bytes
  have hr := B.returns
  have hlocks := B.notSynchronized
  have hts : ∀ w ∈ wsU, w.before _ s = true := fun w h => atoms_spec (ws := us_X0_turnStove) B.pre w (List.mem_cons_of_mem _ h)
  have hown : s.vm.findClass RX0 = some m.cls := findClass_of_methodNamed B.named
  have hC : Cx p m c cX0_turnStove 2 s _ wsU RX0 D cy := ⟨⟨hx, hb, hml, hown, hts⟩, hK, hN⟩
  have hW : Wd D cy 55 shX ad A s.heap σ s.heap [] := ⟨hP, hD, va_S.rf, hA⟩
  have hl := lv_entry ([.ref (ad o), .int p0]) (n := 2) (Nat.le_of_ble_eq_true rfl)
  rw [lg_entry_eq]
  generalize (lg_sl ([.ref (ad o), .int p0]) ++ List.replicate (2 - (lg_sl ([.ref (ad o), .int p0])).length) Slot.unset).toArray = ls at hl ⊢
  have hl : lv_has ls 2 [(0, .ref (ad o)), (1, .int p0)] := hl
  refine lv_aload_n hx hb dX0_turnStove_0 rfl (lv_at hl 0 rfl) ?_
  refine lv_dup hx hb dX0_turnStove_1 rfl ?_
  refine r_geti hC hW 1 (isCoop_b ho 0 (Nat.zero_le _)) ho.2.1 rfl rfl (by decide) inUX0 (hts _ wd_21) rfl dX0_turnStove_2 ?_
  refine lv_iload_n hx hb dX0_turnStove_5 rfl (lv_at hl 1 rfl) ?_
  replace h := bd h
  obtain ⟨r1, hc, h⟩ := h
  refine r_calli hW (va_runSN (As := [.int p0]) (rest := [.int (σ o 1), .ref (ad o)]) hC.1 (c_X6_bit l D cy ad A _ _ _ hc) ⟨va_cnB 1 hts (gdN wd_25) rfl rfl rfl (NL.at hC.2.2 nw_RX0_61 rfl) (hts _ wd_5) (by decide +kernel) ⟨Nat.le_of_ble_eq_true rfl, Nat.le_of_ble_eq_true rfl⟩, hts _ wd_26, trivial⟩ (r_preS hC hW) rfl rfl hl.1 rfl (lv_room (Nat.le_of_ble_eq_true rfl)) dX0_turnStove_6 ⟨Nat.zero_le _, Nat.zero_le _⟩) (fun H locs hWn => ?_)
  replace hW := hWn
  clear hWn hc
  refine lv_ixor hx hb dX0_turnStove_9 ?_
  refine r_put hC hW 1 (isCoop_b ho 0 (Nat.zero_le _)) ho.2.1 rfl rfl (by decide) inUX0 tyX0 tyX0_ok nmX0 (hts _ wd_21) rfl rfl ⟨rfl, rfl⟩ dX0_turnStove_10 (fun σ2 eσ2 H locs hWn => ?_)
  replace h := bn eσ2 h
  replace hW := hWn
  clear hWn eσ2
  exact r_vretW hC hr hlocks h hW dX0_turnStove_13
set_option maxHeartbeats 4000000 in
set_option maxRecDepth 100000 in
theorem c_X0_warmBehind (l : Launch) (D : va_G) (cy : ClassId × ClassId) (ad : Nat → Nat) (A : Nat → Prop) (N : Nat) (o : Nat) (ho : isCoop o) (p0 : Int32) (σ : Hp) (r : Int32) (h : t_X0_warmBehind N o p0 σ = some r) : Ci l yX0_warmBehind us_X0_warmBehind ({ frames := 2, cells := 0, slots := 0, locals := 42 } : Room) D cy 55 shX ad A [.ref (ad o), .int p0] σ r σ := by
  unfold t_X0_warmBehind at h
  refine Met.ofW (cc := cX0_warmBehind) (maxL := 5) (ret := (some .int)) (by decide) rfl ?_
  intro p e s m args below meth c s₁ B hml hv
  obtain ⟨rfl, hP, hK, hD, hA, hN⟩ := hv
  have hx := B.exec
  have hb := B.bytes
  have hr := B.returns
  have hlocks := B.notSynchronized
  have hts : ∀ w ∈ wsU, w.before _ s = true := fun w h => atoms_spec (ws := us_X0_warmBehind) B.pre w (List.mem_cons_of_mem _ h)
  have hown : s.vm.findClass RX0 = some m.cls := findClass_of_methodNamed B.named
  have hC : Cx p m c cX0_warmBehind 5 s _ wsU RX0 D cy := ⟨⟨hx, hb, hml, hown, hts⟩, hK, hN⟩
  have hW : Wd D cy 55 shX ad A s.heap σ s.heap [] := ⟨hP, hD, va_S.rf, hA⟩
  have hl := lv_entry ([.ref (ad o), .int p0]) (n := 5) (Nat.le_of_ble_eq_true rfl)
  rw [lg_entry_eq]
  generalize (lg_sl ([.ref (ad o), .int p0]) ++ List.replicate (5 - (lg_sl ([.ref (ad o), .int p0])).length) Slot.unset).toArray = ls at hl ⊢
  have hl : lv_has ls 5 [(0, .ref (ad o)), (1, .int p0)] := hl
  have L6 : ∀ (f : Nat) (v2 : Int32) (v3 : Int32), t_X0_warmBehind_6 N o f v2 v3 σ = some r → ∀ (H : Heap) (locs : List Loc), Wd D cy 55 shX ad A s.heap σ H locs → ∀ ls : Array Slot, lv_has ls 5 [(0, .ref (ad o)), (2, .int v2), (3, .int v3)] → Gi p l e us_X0_warmBehind ({ frames := 2, cells := 0, slots := 0, locals := 42 } : Room) s m [.ref (ad o), .int p0] below meth c D cy 55 shX ad A r σ H locs (F0 m 6 ls []) := by
    intro f
    unfold t_X0_warmBehind_6
    refine loopG_ind (fun (T : Int32 → Int32 → Hp → Option Int32) => ∀ (v2 : Int32) (v3 : Int32), T v2 v3 σ = some r → ∀ (H : Heap) (locs : List Loc), Wd D cy 55 shX ad A s.heap σ H locs → ∀ ls : Array Slot, lv_has ls 5 [(0, .ref (ad o)), (2, .int v2), (3, .int v3)] → Gi p l e us_X0_warmBehind ({ frames := 2, cells := 0, slots := 0, locals := 42 } : Room) s m [.ref (ad o), .int p0] below meth c D cy 55 shX ad A r σ H locs (F0 m 6 ls [])) ?_ ?_ f
    · intro v2 v3 h; exact absurd h (by simp)
    · intro k6 ih6
      have J50 : ∀ (v2 : Int32) (v3 : Int32), t_X0_warmBehind_50 N o k6 v2 v3 σ = some r → ∀ (H : Heap) (locs : List Loc), Wd D cy 55 shX ad A s.heap σ H locs → ∀ ls : Array Slot, lv_has ls 5 [(0, .ref (ad o)), (2, .int v2), (3, .int v3)] → Gi p l e us_X0_warmBehind ({ frames := 2, cells := 0, slots := 0, locals := 42 } : Room) s m [.ref (ad o), .int p0] below meth c D cy 55 shX ad A r σ H locs (F0 m 50 ls []) := by
        intro v2 v3 h H locs hW ls hl
        unfold t_X0_warmBehind_50 at h
        replace h := bx h
        obtain ⟨x1, ex1, h⟩ := h
        refine lv_iinc (v := x1) (lv' := [(3, .int x1), (0, .ref (ad o)), (2, .int v2)]) hx hb dX0_warmBehind_50 hl (k := 2) rfl (by rw [ex1]; rfl) (by decide) rfl (fun ls hln => ?_)
        replace hl := hln
        clear hln ex1
        refine lv_goto (tgt := 6) hx hb dX0_warmBehind_53 (by decide) ?_
        exact ih6 _ _ h _ _ hW _ (lv_sub hl [1, 2, 0] rfl)
      intro v2 v3 h H locs hW ls hl
      refine lv_iload_n hx hb dX0_warmBehind_6 rfl (lv_at hl 2 rfl) ?_
      refine lv_aload_n hx hb dX0_warmBehind_7 rfl (lv_at hl 0 rfl) ?_
      refine r_geti hC hW 0 (isCoop_b ho 0 (Nat.zero_le _)) ho.2.1 rfl rfl (by decide) inUX0 (hts _ wd_7) rfl dX0_warmBehind_8 ?_
      refine lv_icmp_ge (tgt := 56) hx hb dX0_warmBehind_11 (by decide) (fun cq => ?_) (fun cq => ?_)
      · replace h := tp cq h
        refine lv_iload_n hx hb dX0_warmBehind_56 rfl (lv_at hl 1 rfl) ?_
        exact r_iretP hC hr hlocks h hW dX0_warmBehind_57
      · replace h := tn cq h
        refine lv_aload_n hx hb dX0_warmBehind_14 rfl (lv_at hl 0 rfl) ?_
        refine r_getr hC hW 2 (isCoop_b ho 0 (Nat.zero_le _)) ho.2.1 rfl rfl (by decide) inUX0 (hts _ wd_22) rfl dX0_warmBehind_15 ?_
        refine lv_iload_n hx hb dX0_warmBehind_18 rfl (lv_at hl 2 rfl) ?_
        replace h := bd h
        obtain ⟨r2, hc, h⟩ := h
        refine r_calli hW (va_runSN (As := [.ref (ad (o + 1)), .int v3]) (rest := []) hC.1 (c_X6_at l D cy ad A (o + 1) 7 ⟨isCoop_b ho 1 (Nat.le_of_ble_eq_true rfl), ho.2.2.1⟩ _ _ _ hc) ⟨va_cnB 2 hts (gdN wd_4) rfl rfl rfl (NL.at hC.2.2 nw_RX0_46 rfl) (hts _ wd_5) (by decide +kernel) ⟨Nat.le_of_ble_eq_true rfl, Nat.le_of_ble_eq_true rfl⟩, hts _ wd_6, trivial⟩ (r_preS hC hW) rfl rfl hl.1 rfl (lv_room (Nat.le_of_ble_eq_true rfl)) dX0_warmBehind_19 ⟨Nat.zero_le _, Nat.zero_le _⟩) (fun H locs hWn => ?_)
        replace hW := hWn
        clear hWn hc
        refine lv_istore (lv' := [(4, .int r2), (0, .ref (ad o)), (2, .int v2), (3, .int v3)]) hx hb dX0_warmBehind_22 hl (by decide) rfl (fun ls hln => ?_)
        replace hl := hln
        clear hln
        refine lv_aload_n hx hb dX0_warmBehind_24 rfl (lv_at hl 1 rfl) ?_
        refine lv_iload hx hb dX0_warmBehind_25 (lv_at hl 0 rfl) ?_
        replace h := bd h
        obtain ⟨r3, hc, h⟩ := h
        refine r_calli hW (va_runV (As := [.int r2]) (rest := []) hC.1 (c_X0_isWhole l D cy ad A o ho _ _ _ hc) (cwV 1 hts (gdV wd_9 wd_10 wd_11 wd_12 wd_8) rfl rfl rfl (by decide +kernel) ⟨Nat.le_of_ble_eq_true rfl, Nat.le_of_ble_eq_true rfl⟩) (r_preV hC hW (isCoop_b ho 0 (Nat.zero_le _)) ho.2.1 rfl) rfl rfl hl.1 rfl (lv_room (Nat.le_of_ble_eq_true rfl)) dX0_warmBehind_27 ⟨Nat.zero_le _, Nat.zero_le _⟩) (fun H locs hWn => ?_)
        replace hW := hWn
        clear hWn hc
        refine lv_if_eq (tgt := 50) hx hb dX0_warmBehind_30 (by decide) (fun cq => ?_) (fun cq => ?_)
        · replace h := tp cq h
          exact J50 _ _ h _ _ hW _ (lv_sub hl [1, 2, 3] rfl)
        · replace h := tn cq h
          refine lv_aload_n hx hb dX0_warmBehind_33 rfl (lv_at hl 1 rfl) ?_
          refine lv_iload hx hb dX0_warmBehind_34 (lv_at hl 0 rfl) ?_
          replace h := bd h
          obtain ⟨r4, hc, h⟩ := h
          refine r_calli hW (va_runV (As := [.int r2]) (rest := []) hC.1 (c_X0_isWarmEnough l D cy ad A o ho _ _ _ hc) (cwV 1 hts (gdV wd_28 wd_29 wd_30 wd_12 wd_27) rfl rfl rfl (by decide +kernel) ⟨Nat.le_of_ble_eq_true rfl, Nat.le_of_ble_eq_true rfl⟩) (r_preV hC hW (isCoop_b ho 0 (Nat.zero_le _)) ho.2.1 rfl) rfl rfl hl.1 rfl (lv_room (Nat.le_of_ble_eq_true rfl)) dX0_warmBehind_36 ⟨Nat.zero_le _, Nat.zero_le _⟩) (fun H locs hWn => ?_)
          replace hW := hWn
          clear hWn hc
          refine lv_if_eq (tgt := 50) hx hb dX0_warmBehind_39 (by decide) (fun cq => ?_) (fun cq => ?_)
          · replace h := tp cq h
            exact J50 _ _ h _ _ hW _ (lv_sub hl [1, 2, 3] rfl)
          · replace h := tn cq h
            refine lv_iload_n hx hb dX0_warmBehind_42 rfl (lv_at hl 2 rfl) ?_
            refine lv_iload hx hb dX0_warmBehind_43 (lv_at hl 0 rfl) ?_
            replace h := bd h
            obtain ⟨r5, hc, h⟩ := h
            refine r_calli hW (va_runSN (As := [.int r2]) (rest := [.int v2]) hC.1 (c_X6_bit l D cy ad A _ _ _ hc) ⟨va_cnB 1 hts (gdN wd_25) rfl rfl rfl (NL.at hC.2.2 nw_RX0_61 rfl) (hts _ wd_5) (by decide +kernel) ⟨Nat.le_of_ble_eq_true rfl, Nat.le_of_ble_eq_true rfl⟩, hts _ wd_26, trivial⟩ (r_preS hC hW) rfl rfl hl.1 rfl (lv_room (Nat.le_of_ble_eq_true rfl)) dX0_warmBehind_45 ⟨Nat.zero_le _, Nat.zero_le _⟩) (fun H locs hWn => ?_)
            replace hW := hWn
            clear hWn hc
            refine lv_ior hx hb dX0_warmBehind_48 ?_
            replace h := bx h
            obtain ⟨x6, ex6, h⟩ := h
            refine tope ex6 ?_
            clear ex6
            refine lv_istore_n (lv' := [(2, .int x6), (4, .int r2), (0, .ref (ad o)), (3, .int v3)]) hx hb dX0_warmBehind_49 rfl hl (by decide) rfl (fun ls hln => ?_)
            replace hl := hln
            clear hln
            exact J50 _ _ h _ _ hW _ (lv_sub hl [2, 0, 3] rfl)
  refine lv_iconst (v := 0) hx hb dX0_warmBehind_0 (by decide) ?_
  refine lv_istore_n (lv' := [(2, .int 0), (0, .ref (ad o)), (1, .int p0)]) hx hb dX0_warmBehind_1 rfl hl (by decide) rfl (fun ls hln => ?_)
  replace hl := hln
  clear hln
  refine lv_iload_n hx hb dX0_warmBehind_2 rfl (lv_at hl 2 rfl) ?_
  refine lv_iconst (v := 1) hx hb dX0_warmBehind_3 (by decide) ?_
  refine lv_iadd hx hb dX0_warmBehind_4 ?_
  replace h := bx h
  obtain ⟨x7, ex7, h⟩ := h
  refine tope ex7 ?_
  clear ex7
  refine lv_istore_n (lv' := [(3, .int x7), (2, .int 0), (0, .ref (ad o)), (1, .int p0)]) hx hb dX0_warmBehind_5 rfl hl (by decide) rfl (fun ls hln => ?_)
  replace hl := hln
  clear hln
  exact L6 _ _ _ h _ _ hW _ (lv_sub hl [2, 1, 0] rfl)
set_option maxHeartbeats 4000000 in
set_option maxRecDepth 100000 in
theorem c_X0_worthOf (l : Launch) (D : va_G) (cy : ClassId × ClassId) (ad : Nat → Nat) (A : Nat → Prop) (N : Nat) (o : Nat) (ho : isCoop o) (p0 : Int32) (p1 : Int32) (σ : Hp) (r : Int32) (h : t_X0_worthOf N o p0 p1 σ = some r) : Ci l yX0_worthOf us_X0_worthOf ({ frames := 2, cells := 0, slots := 0, locals := 43 } : Room) D cy 55 shX ad A [.ref (ad o), .int p0, .int p1] σ r σ := by
  unfold t_X0_worthOf at h
  refine Met.ofW (cc := cX0_worthOf) (maxL := 5) (ret := (some .int)) (by decide) rfl ?_
  intro p e s m args below meth c s₁ B hml hv
  obtain ⟨rfl, hP, hK, hD, hA, hN⟩ := hv
  have hx := B.exec
  have hb := B.bytes
  have hr := B.returns
  have hlocks := B.notSynchronized
  have hts : ∀ w ∈ wsU, w.before _ s = true := fun w h => atoms_spec (ws := us_X0_worthOf) B.pre w (List.mem_cons_of_mem _ h)
  have hown : s.vm.findClass RX0 = some m.cls := findClass_of_methodNamed B.named
  have hC : Cx p m c cX0_worthOf 5 s _ wsU RX0 D cy := ⟨⟨hx, hb, hml, hown, hts⟩, hK, hN⟩
  have hW : Wd D cy 55 shX ad A s.heap σ s.heap [] := ⟨hP, hD, va_S.rf, hA⟩
  have hl := lv_entry ([.ref (ad o), .int p0, .int p1]) (n := 5) (Nat.le_of_ble_eq_true rfl)
  rw [lg_entry_eq]
  generalize (lg_sl ([.ref (ad o), .int p0, .int p1]) ++ List.replicate (5 - (lg_sl ([.ref (ad o), .int p0, .int p1])).length) Slot.unset).toArray = ls at hl ⊢
  have hl : lv_has ls 5 [(0, .ref (ad o)), (1, .int p0), (2, .int p1)] := hl
  have L5 : ∀ (f : Nat) (v1 : Int32) (v2 : Int32) (v3 : Int32) (v4 : Int32), t_X0_worthOf_5 N o f v1 v2 v3 v4 σ = some r → ∀ (H : Heap) (locs : List Loc), Wd D cy 55 shX ad A s.heap σ H locs → ∀ ls : Array Slot, lv_has ls 5 [(0, .ref (ad o)), (1, .int v1), (2, .int v2), (3, .int v3), (4, .int v4)] → Gi p l e us_X0_worthOf ({ frames := 2, cells := 0, slots := 0, locals := 43 } : Room) s m [.ref (ad o), .int p0, .int p1] below meth c D cy 55 shX ad A r σ H locs (F0 m 5 ls []) := by
    intro f
    unfold t_X0_worthOf_5
    refine loopG_ind (fun (T : Int32 → Int32 → Int32 → Int32 → Hp → Option Int32) => ∀ (v1 : Int32) (v2 : Int32) (v3 : Int32) (v4 : Int32), T v1 v2 v3 v4 σ = some r → ∀ (H : Heap) (locs : List Loc), Wd D cy 55 shX ad A s.heap σ H locs → ∀ ls : Array Slot, lv_has ls 5 [(0, .ref (ad o)), (1, .int v1), (2, .int v2), (3, .int v3), (4, .int v4)] → Gi p l e us_X0_worthOf ({ frames := 2, cells := 0, slots := 0, locals := 43 } : Room) s m [.ref (ad o), .int p0, .int p1] below meth c D cy 55 shX ad A r σ H locs (F0 m 5 ls [])) ?_ ?_ f
    · intro v1 v2 v3 v4 h; exact absurd h (by simp)
    · intro k5 ih5
      have J47 : ∀ (v1 : Int32) (v2 : Int32) (v3 : Int32) (v4 : Int32), t_X0_worthOf_47 N o k5 v1 v2 v3 v4 σ = some r → ∀ (H : Heap) (locs : List Loc), Wd D cy 55 shX ad A s.heap σ H locs → ∀ ls : Array Slot, lv_has ls 5 [(0, .ref (ad o)), (1, .int v1), (2, .int v2), (3, .int v3), (4, .int v4)] → Gi p l e us_X0_worthOf ({ frames := 2, cells := 0, slots := 0, locals := 43 } : Room) s m [.ref (ad o), .int p0, .int p1] below meth c D cy 55 shX ad A r σ H locs (F0 m 47 ls []) := by
        intro v1 v2 v3 v4 h H locs hW ls hl
        unfold t_X0_worthOf_47 at h
        replace h := bx h
        obtain ⟨x1, ex1, h⟩ := h
        refine lv_iinc (v := x1) (lv' := [(4, .int x1), (0, .ref (ad o)), (1, .int v1), (2, .int v2), (3, .int v3)]) hx hb dX0_worthOf_47 hl (k := 4) rfl (by rw [ex1]; rfl) (by decide) rfl (fun ls hln => ?_)
        replace hl := hln
        clear hln ex1
        refine lv_goto (tgt := 5) hx hb dX0_worthOf_50 (by decide) ?_
        exact ih5 _ _ _ _ h _ _ hW _ (lv_sub hl [1, 2, 3, 4, 0] rfl)
      intro v1 v2 v3 v4 h H locs hW ls hl
      refine lv_iload hx hb dX0_worthOf_5 (lv_at hl 4 rfl) ?_
      refine lv_aload_n hx hb dX0_worthOf_7 rfl (lv_at hl 0 rfl) ?_
      refine r_geti hC hW 0 (isCoop_b ho 0 (Nat.zero_le _)) ho.2.1 rfl rfl (by decide) inUX0 (hts _ wd_7) rfl dX0_worthOf_8 ?_
      refine lv_icmp_ge (tgt := 53) hx hb dX0_worthOf_11 (by decide) (fun cq => ?_) (fun cq => ?_)
      · replace h := tp cq h
        refine lv_iload_n hx hb dX0_worthOf_53 rfl (lv_at hl 3 rfl) ?_
        exact r_iretP hC hr hlocks h hW dX0_worthOf_54
      · replace h := tn cq h
        refine lv_iload_n hx hb dX0_worthOf_14 rfl (lv_at hl 1 rfl) ?_
        refine lv_iload hx hb dX0_worthOf_15 (lv_at hl 4 rfl) ?_
        replace h := bd h
        obtain ⟨r2, hc, h⟩ := h
        refine r_calli hW (va_runSN (As := [.int v1, .int v4]) (rest := []) hC.1 (c_X6_hasBit l D cy ad A _ _ _ _ hc) ⟨va_cnB 2 hts (gdN wd_31) rfl rfl rfl (NL.at hC.2.2 nw_RX0_71 rfl) (hts _ wd_5) (by decide +kernel) ⟨Nat.le_of_ble_eq_true rfl, Nat.le_of_ble_eq_true rfl⟩, hts _ wd_32, trivial⟩ (r_preS hC hW) rfl rfl hl.1 rfl (lv_room (Nat.le_of_ble_eq_true rfl)) dX0_worthOf_17 ⟨Nat.zero_le _, Nat.zero_le _⟩) (fun H locs hWn => ?_)
        replace hW := hWn
        clear hWn hc
        refine lv_if_eq (tgt := 47) hx hb dX0_worthOf_20 (by decide) (fun cq => ?_) (fun cq => ?_)
        · replace h := tp cq h
          exact J47 _ _ _ _ h _ _ hW _ (lv_sub hl [0, 1, 2, 3, 4] rfl)
        · replace h := tn cq h
          refine lv_iload_n hx hb dX0_worthOf_23 rfl (lv_at hl 2 rfl) ?_
          refine lv_aload_n hx hb dX0_worthOf_24 rfl (lv_at hl 0 rfl) ?_
          refine lv_iload hx hb dX0_worthOf_25 (lv_at hl 4 rfl) ?_
          refine lv_iconst (v := 3) hx hb dX0_worthOf_27 (by decide) ?_
          replace h := bd h
          obtain ⟨r3, hc, h⟩ := h
          refine r_calli hW (va_runV (As := [.int v4, .int 3]) (rest := [.int v2]) hC.1 (c_X0_fact l D cy ad A o ho _ _ _ _ hc) (cwV 2 hts (gdV wd_18 wd_19 wd_20 wd_12 wd_17) rfl rfl rfl (by decide +kernel) ⟨Nat.le_of_ble_eq_true rfl, Nat.le_of_ble_eq_true rfl⟩) (r_preV hC hW (isCoop_b ho 0 (Nat.zero_le _)) ho.2.1 rfl) rfl rfl hl.1 rfl (lv_room (Nat.le_of_ble_eq_true rfl)) dX0_worthOf_28 ⟨Nat.zero_le _, Nat.zero_le _⟩) (fun H locs hWn => ?_)
          replace hW := hWn
          clear hWn hc
          replace h := bd h
          obtain ⟨r4, hc, h⟩ := h
          refine r_calli hW (va_runSN (As := [.int v2, .int r3]) (rest := []) hC.1 (c_X6_hasBit l D cy ad A _ _ _ _ hc) ⟨va_cnB 2 hts (gdN wd_31) rfl rfl rfl (NL.at hC.2.2 nw_RX0_71 rfl) (hts _ wd_5) (by decide +kernel) ⟨Nat.le_of_ble_eq_true rfl, Nat.le_of_ble_eq_true rfl⟩, hts _ wd_32, trivial⟩ (r_preS hC hW) rfl rfl hl.1 rfl (lv_room (Nat.le_of_ble_eq_true rfl)) dX0_worthOf_31 ⟨Nat.zero_le _, Nat.zero_le _⟩) (fun H locs hWn => ?_)
          replace hW := hWn
          clear hWn hc
          refine lv_if_eq (tgt := 47) hx hb dX0_worthOf_34 (by decide) (fun cq => ?_) (fun cq => ?_)
          · replace h := tp cq h
            exact J47 _ _ _ _ h _ _ hW _ (lv_sub hl [0, 1, 2, 3, 4] rfl)
          · replace h := tn cq h
            refine lv_iload_n hx hb dX0_worthOf_37 rfl (lv_at hl 3 rfl) ?_
            refine lv_aload_n hx hb dX0_worthOf_38 rfl (lv_at hl 0 rfl) ?_
            refine lv_iload hx hb dX0_worthOf_39 (lv_at hl 4 rfl) ?_
            refine lv_iconst (v := 2) hx hb dX0_worthOf_41 (by decide) ?_
            replace h := bd h
            obtain ⟨r5, hc, h⟩ := h
            refine r_calli hW (va_runV (As := [.int v4, .int 2]) (rest := [.int v3]) hC.1 (c_X0_fact l D cy ad A o ho _ _ _ _ hc) (cwV 2 hts (gdV wd_18 wd_19 wd_20 wd_12 wd_17) rfl rfl rfl (by decide +kernel) ⟨Nat.le_of_ble_eq_true rfl, Nat.le_of_ble_eq_true rfl⟩) (r_preV hC hW (isCoop_b ho 0 (Nat.zero_le _)) ho.2.1 rfl) rfl rfl hl.1 rfl (lv_room (Nat.le_of_ble_eq_true rfl)) dX0_worthOf_42 ⟨Nat.zero_le _, Nat.zero_le _⟩) (fun H locs hWn => ?_)
            replace hW := hWn
            clear hWn hc
            refine lv_iadd hx hb dX0_worthOf_45 ?_
            replace h := bx h
            obtain ⟨x6, ex6, h⟩ := h
            refine tope ex6 ?_
            clear ex6
            refine lv_istore_n (lv' := [(3, .int x6), (0, .ref (ad o)), (1, .int v1), (2, .int v2), (4, .int v4)]) hx hb dX0_worthOf_46 rfl hl (by decide) rfl (fun ls hln => ?_)
            replace hl := hln
            clear hln
            exact J47 _ _ _ _ h _ _ hW _ (lv_sub hl [1, 2, 3, 0, 4] rfl)
  refine lv_iconst (v := 0) hx hb dX0_worthOf_0 (by decide) ?_
  refine lv_istore_n (lv' := [(3, .int 0), (0, .ref (ad o)), (1, .int p0), (2, .int p1)]) hx hb dX0_worthOf_1 rfl hl (by decide) rfl (fun ls hln => ?_)
  replace hl := hln
  clear hln
  refine lv_iconst (v := 0) hx hb dX0_worthOf_2 (by decide) ?_
  refine lv_istore (lv' := [(4, .int 0), (3, .int 0), (0, .ref (ad o)), (1, .int p0), (2, .int p1)]) hx hb dX0_worthOf_3 hl (by decide) rfl (fun ls hln => ?_)
  replace hl := hln
  clear hln
  exact L5 _ _ _ _ _ h _ _ hW _ (lv_sub hl [2, 3, 4, 1, 0] rfl)
set_option maxHeartbeats 4000000 in
set_option maxRecDepth 100000 in
theorem c_X1_addOrders (l : Launch) (D : va_G) (cy : ClassId × ClassId) (ad : Nat → Nat) (A : Nat → Prop) (p0 : Int32) (p1 : Int32) (p2 : Int32) (p3 : Int32) (σ : Hp) (σ' : Hp) (h : t_X1_addOrders p0 p1 p2 p3 σ = some σ') : Cv l yX1_addOrders us_X1_addOrders ({ frames := 1, cells := 0, slots := 0, locals := 22 } : Room) D cy 55 shX ad A [.ref (ad 38), .int p0, .int p1, .int p2, .int p3] σ σ' := by
  unfold t_X1_addOrders at h
  refine Met.ofW (cc := cX1_addOrders) (maxL := 6) (ret := none) (by decide) rfl ?_
  intro p e s m args below meth c s₁ B hml hv
  obtain ⟨rfl, hP, hK, hD, hA, hN⟩ := hv
  have hx := B.exec
  have hb := B.bytes
  have hr := B.returns
  have hlocks := B.notSynchronized
  have hts : ∀ w ∈ wsU, w.before _ s = true := fun w h => atoms_spec (ws := us_X1_addOrders) B.pre w (List.mem_cons_of_mem _ h)
  have hown : s.vm.findClass RX1 = some m.cls := findClass_of_methodNamed B.named
  have hC : Cx p m c cX1_addOrders 6 s _ wsU RX1 D cy := ⟨⟨hx, hb, hml, hown, hts⟩, hK, hN⟩
  have hW : Wd D cy 55 shX ad A s.heap σ s.heap [] := ⟨hP, hD, va_S.rf, hA⟩
  have hl := lv_entry ([.ref (ad 38), .int p0, .int p1, .int p2, .int p3]) (n := 6) (Nat.le_of_ble_eq_true rfl)
  rw [lg_entry_eq]
  generalize (lg_sl ([.ref (ad 38), .int p0, .int p1, .int p2, .int p3]) ++ List.replicate (6 - (lg_sl ([.ref (ad 38), .int p0, .int p1, .int p2, .int p3])).length) Slot.unset).toArray = ls at hl ⊢
  have hl : lv_has ls 6 [(0, .ref (ad 38)), (1, .int p0), (2, .int p1), (3, .int p2), (4, .int p3)] := hl
  refine lv_iload_n hx hb dX1_addOrders_0 rfl (lv_at hl 1 rfl) ?_
  refine lv_bipush (v := 7) hx hb dX1_addOrders_1 (by decide) ?_
  refine lv_imul hx hb dX1_addOrders_3 ?_
  refine lv_iload_n hx hb dX1_addOrders_4 rfl (lv_at hl 2 rfl) ?_
  refine lv_iadd hx hb dX1_addOrders_5 ?_
  replace h := bx h
  obtain ⟨x1, ex1, h⟩ := h
  refine tope ex1 ?_
  clear ex1
  refine lv_istore (lv' := [(5, .int x1), (0, .ref (ad 38)), (1, .int p0), (2, .int p1), (3, .int p2), (4, .int p3)]) hx hb dX1_addOrders_6 hl (by decide) rfl (fun ls hln => ?_)
  replace hl := hln
  clear hln
  refine lv_aload_n hx hb dX1_addOrders_8 rfl (lv_at hl 1 rfl) ?_
  refine r_getr hC hW 4 (Nat.le_of_ble_eq_true rfl) rfl rfl rfl (by decide) inUX1 (hts _ wd_54) rfl dX1_addOrders_9 ?_
  refine lv_iload hx hb dX1_addOrders_12 (lv_at hl 0 rfl) ?_
  refine lv_aload_n hx hb dX1_addOrders_14 rfl (lv_at hl 1 rfl) ?_
  refine r_getr hC hW 4 (Nat.le_of_ble_eq_true rfl) rfl rfl rfl (by decide) inUX1 (hts _ wd_54) rfl dX1_addOrders_15 ?_
  refine lv_iload hx hb dX1_addOrders_18 (lv_at hl 0 rfl) ?_
  replace h := bd h
  obtain ⟨r2, hc, h⟩ := h
  refine r_calli hW (va_runSN (As := [.ref (ad 41), .int x1]) (rest := [.int x1, .ref (ad 41)]) hC.1 (c_X6_at l D cy ad A 41 49 ⟨Nat.le_of_ble_eq_true rfl, rfl⟩ _ _ _ hc) ⟨va_cnB 2 hts (gdN wd_4) rfl rfl rfl (NL.at hC.2.2 nw_RX1_81 rfl) (hts _ wd_5) (by decide +kernel) ⟨Nat.le_of_ble_eq_true rfl, Nat.le_of_ble_eq_true rfl⟩, hts _ wd_6, trivial⟩ (r_preS hC hW) rfl rfl hl.1 rfl (lv_room (Nat.le_of_ble_eq_true rfl)) dX1_addOrders_20 ⟨Nat.zero_le _, Nat.zero_le _⟩) (fun H locs hWn => ?_)
  replace hW := hWn
  clear hWn hc
  refine lv_iload hx hb dX1_addOrders_23 (lv_at hl 5 rfl) ?_
  refine lv_iadd hx hb dX1_addOrders_25 ?_
  replace h := bd h
  obtain ⟨σ3, hc, h⟩ := h
  refine r_callv hW (va_runSN (As := [.ref (ad 41), .int x1, .int (r2 + p3)]) (rest := []) hC.1 (c_X6_put l D cy ad A 41 49 ⟨Nat.le_of_ble_eq_true rfl, rfl⟩ _ _ _ _ hc) ⟨va_cnB 3 hts (gdN wd_37) rfl rfl rfl (NL.at hC.2.2 nw_RX1_95 rfl) (hts _ wd_5) (by decide +kernel) ⟨Nat.le_of_ble_eq_true rfl, Nat.le_of_ble_eq_true rfl⟩, hts _ wd_38, trivial⟩ (r_preS hC hW) rfl rfl hl.1 rfl (lv_room (Nat.le_of_ble_eq_true rfl)) dX1_addOrders_26 ⟨Nat.zero_le _, Nat.zero_le _⟩) (fun H locs hWn => ?_)
  replace hW := hWn
  clear hWn hc
  refine lv_aload_n hx hb dX1_addOrders_29 rfl (lv_at hl 1 rfl) ?_
  refine r_getr hC hW 5 (Nat.le_of_ble_eq_true rfl) rfl rfl rfl (by decide) inUX1 (hts _ wd_55) rfl dX1_addOrders_30 ?_
  refine lv_iload_n hx hb dX1_addOrders_33 rfl (lv_at hl 2 rfl) ?_
  refine lv_aload_n hx hb dX1_addOrders_34 rfl (lv_at hl 1 rfl) ?_
  refine r_getr hC hW 5 (Nat.le_of_ble_eq_true rfl) rfl rfl rfl (by decide) inUX1 (hts _ wd_55) rfl dX1_addOrders_35 ?_
  refine lv_iload_n hx hb dX1_addOrders_38 rfl (lv_at hl 2 rfl) ?_
  replace h := bd h
  obtain ⟨r4, hc, h⟩ := h
  refine r_calli hW (va_runSN (As := [.ref (ad 42), .int p0]) (rest := [.int p0, .ref (ad 42)]) hC.1 (c_X6_at l D cy ad A 42 7 ⟨Nat.le_of_ble_eq_true rfl, rfl⟩ _ _ _ hc) ⟨va_cnB 2 hts (gdN wd_4) rfl rfl rfl (NL.at hC.2.2 nw_RX1_81 rfl) (hts _ wd_5) (by decide +kernel) ⟨Nat.le_of_ble_eq_true rfl, Nat.le_of_ble_eq_true rfl⟩, hts _ wd_6, trivial⟩ (r_preS hC hW) rfl rfl hl.1 rfl (lv_room (Nat.le_of_ble_eq_true rfl)) dX1_addOrders_39 ⟨Nat.zero_le _, Nat.zero_le _⟩) (fun H locs hWn => ?_)
  replace hW := hWn
  clear hWn hc
  refine lv_iload_n hx hb dX1_addOrders_42 rfl (lv_at hl 4 rfl) ?_
  refine lv_ior hx hb dX1_addOrders_43 ?_
  replace h := bd h
  obtain ⟨σ5, hc, h⟩ := h
  refine r_callv hW (va_runSN (As := [.ref (ad 42), .int p0, .int (r4 ||| p2)]) (rest := []) hC.1 (c_X6_put l D cy ad A 42 7 ⟨Nat.le_of_ble_eq_true rfl, rfl⟩ _ _ _ _ hc) ⟨va_cnB 3 hts (gdN wd_37) rfl rfl rfl (NL.at hC.2.2 nw_RX1_95 rfl) (hts _ wd_5) (by decide +kernel) ⟨Nat.le_of_ble_eq_true rfl, Nat.le_of_ble_eq_true rfl⟩, hts _ wd_38, trivial⟩ (r_preS hC hW) rfl rfl hl.1 rfl (lv_room (Nat.le_of_ble_eq_true rfl)) dX1_addOrders_44 ⟨Nat.zero_le _, Nat.zero_le _⟩) (fun H locs hWn => ?_)
  replace hW := hWn
  clear hWn hc
  exact r_vretW hC hr hlocks h hW dX1_addOrders_47
set_option maxHeartbeats 4000000 in
set_option maxRecDepth 100000 in
theorem c_X6_putAll (l : Launch) (D : va_G) (cy : ClassId × ClassId) (ad : Nat → Nat) (A : Nat → Prop) (N : Nat) (a : Nat) (la : Nat) (ha : isArr a la) (p1 : Int32) (σ : Hp) (σ' : Hp) (h : t_X6_putAll N a la p1 σ = some σ') : Cv l yX6_putAll us_X6_putAll ({ frames := 0, cells := 0, slots := 0, locals := 0 } : Room) D cy 55 shX ad A [.ref (ad a), .int p1] σ σ' := by
  unfold t_X6_putAll at h
  refine Met.ofW (cc := cX6_putAll) (maxL := 3) (ret := none) (by decide) rfl ?_
  intro p e s m args below meth c s₁ B hml hv
  obtain ⟨rfl, hP, hK, hD, hA, hN⟩ := hv
  have hx := B.exec
  have hb := B.bytes
  have hr := B.returns
  have hlocks := B.notSynchronized
  have hts : ∀ w ∈ wsU, w.before _ s = true := fun w h => atoms_spec (ws := us_X6_putAll) B.pre w (List.mem_cons_of_mem _ h)
  have hown : s.vm.findClass RX6 = some m.cls := findClass_of_methodNamed B.named
  have hC : Cx p m c cX6_putAll 3 s _ wsU RX6 D cy := ⟨⟨hx, hb, hml, hown, hts⟩, hK, hN⟩
  have hW : Wd D cy 55 shX ad A s.heap σ s.heap [] := ⟨hP, hD, va_S.rf, hA⟩
  have hl := lv_entry ([.ref (ad a), .int p1]) (n := 3) (Nat.le_of_ble_eq_true rfl)
  rw [lg_entry_eq]
  generalize (lg_sl ([.ref (ad a), .int p1]) ++ List.replicate (3 - (lg_sl ([.ref (ad a), .int p1])).length) Slot.unset).toArray = ls at hl ⊢
  have hl : lv_has ls 3 [(0, .ref (ad a)), (1, .int p1)] := hl
  have L2 : ∀ (f : Nat) (v1 : Int32) (v2 : Int32) (σ : Hp), t_X6_putAll_2 N a la f v1 v2 σ = some σ' → ∀ (H : Heap) (locs : List Loc), Wd D cy 55 shX ad A s.heap σ H locs → ∀ ls : Array Slot, lv_has ls 3 [(0, .ref (ad a)), (1, .int v1), (2, .int v2)] → Gv p l e us_X6_putAll ({ frames := 0, cells := 0, slots := 0, locals := 0 } : Room) s m [.ref (ad a), .int p1] below meth c D cy 55 shX ad A σ' H locs (F0 m 2 ls []) := by
    intro f
    unfold t_X6_putAll_2
    refine loopG_ind (fun (T : Int32 → Int32 → Hp → Option Hp) => ∀ (v1 : Int32) (v2 : Int32) (σ : Hp), T v1 v2 σ = some σ' → ∀ (H : Heap) (locs : List Loc), Wd D cy 55 shX ad A s.heap σ H locs → ∀ ls : Array Slot, lv_has ls 3 [(0, .ref (ad a)), (1, .int v1), (2, .int v2)] → Gv p l e us_X6_putAll ({ frames := 0, cells := 0, slots := 0, locals := 0 } : Room) s m [.ref (ad a), .int p1] below meth c D cy 55 shX ad A σ' H locs (F0 m 2 ls [])) ?_ ?_ f
    · intro v1 v2 σ h; exact absurd h (by simp)
    · intro k2 ih2
      intro v1 v2 σ h H locs hW ls hl
      refine lv_aload_n hx hb dX6_putAll_2 rfl (lv_at hl 0 rfl) ?_
      refine lv_ifnull hx hb dX6_putAll_3 ?_
      refine lv_iload_n hx hb dX6_putAll_6 rfl (lv_at hl 2 rfl) ?_
      refine lv_aload_n hx hb dX6_putAll_7 rfl (lv_at hl 0 rfl) ?_
      refine r_alen hC hW ha.1 ha.2 dX6_putAll_8 ?_
      refine lv_icmp_ge (tgt := 22) hx hb dX6_putAll_9 (by decide) (fun cq => ?_) (fun cq => ?_)
      · replace h := tp cq h
        exact r_vretW hC hr hlocks h hW dX6_putAll_22
      · replace h := tn cq h
        refine lv_aload_n hx hb dX6_putAll_12 rfl (lv_at hl 0 rfl) ?_
        refine lv_iload_n hx hb dX6_putAll_13 rfl (lv_at hl 2 rfl) ?_
        refine lv_iload_n hx hb dX6_putAll_14 rfl (lv_at hl 1 rfl) ?_
        replace h := og h
        obtain ⟨hi, h⟩ := h
        refine r_ast hC hW ha.1 ha.2 hi dX6_putAll_15 (fun σ1 eσ1 H locs hWn => ?_)
        replace h := bn eσ1 h
        replace hW := hWn
        clear hWn eσ1
        replace h := bx h
        obtain ⟨x2, ex2, h⟩ := h
        refine lv_iinc (v := x2) (lv' := [(2, .int x2), (0, .ref (ad a)), (1, .int v1)]) hx hb dX6_putAll_16 hl (k := 2) rfl (by rw [ex2]; rfl) (by decide) rfl (fun ls hln => ?_)
        replace hl := hln
        clear hln ex2
        refine lv_goto (tgt := 2) hx hb dX6_putAll_19 (by decide) ?_
        exact ih2 _ _ _ h _ _ hW _ (lv_sub hl [1, 2, 0] rfl)
  refine lv_iconst (v := 0) hx hb dX6_putAll_0 (by decide) ?_
  refine lv_istore_n (lv' := [(2, .int 0), (0, .ref (ad a)), (1, .int p1)]) hx hb dX6_putAll_1 rfl hl (by decide) rfl (fun ls hln => ?_)
  replace hl := hln
  clear hln
  exact L2 _ _ _ _ h _ _ hW _ (lv_sub hl [1, 2, 0] rfl)
set_option maxHeartbeats 4000000 in
set_option maxRecDepth 100000 in
theorem c_X1_begin (l : Launch) (D : va_G) (cy : ClassId × ClassId) (ad : Nat → Nat) (A : Nat → Prop) (N : Nat) (p0 : Int32) (σ : Hp) (σ' : Hp) (h : t_X1_begin N p0 σ = some σ') : Cv l yX1_begin us_X1_begin ({ frames := 1, cells := 0, slots := 0, locals := 24 } : Room) D cy 55 shX ad A [.ref (ad 38), .int p0] σ σ' := by
  unfold t_X1_begin at h
  refine Met.ofW (cc := cX1_begin) (maxL := 2) (ret := none) (by decide) rfl ?_
  intro p e s m args below meth c s₁ B hml hv
  obtain ⟨rfl, hP, hK, hD, hA, hN⟩ := hv
  have hx := B.exec
  have hb := B.bytes
  have hr := B.returns
  have hlocks := B.notSynchronized
  have hts : ∀ w ∈ wsU, w.before _ s = true := fun w h => atoms_spec (ws := us_X1_begin) B.pre w (List.mem_cons_of_mem _ h)
  have hown : s.vm.findClass RX1 = some m.cls := findClass_of_methodNamed B.named
  have hC : Cx p m c cX1_begin 2 s _ wsU RX1 D cy := ⟨⟨hx, hb, hml, hown, hts⟩, hK, hN⟩
  have hW : Wd D cy 55 shX ad A s.heap σ s.heap [] := ⟨hP, hD, va_S.rf, hA⟩
  have hl := lv_entry ([.ref (ad 38), .int p0]) (n := 2) (Nat.le_of_ble_eq_true rfl)
  rw [lg_entry_eq]
  generalize (lg_sl ([.ref (ad 38), .int p0]) ++ List.replicate (2 - (lg_sl ([.ref (ad 38), .int p0])).length) Slot.unset).toArray = ls at hl ⊢
  have hl : lv_has ls 2 [(0, .ref (ad 38)), (1, .int p0)] := hl
  refine lv_aload_n hx hb dX1_begin_0 rfl (lv_at hl 0 rfl) ?_
  refine lv_iconst (v := 0) hx hb dX1_begin_1 (by decide) ?_
  refine lv_iload_n hx hb dX1_begin_2 rfl (lv_at hl 1 rfl) ?_
  refine lv_bipush (v := 7) hx hb dX1_begin_3 (by decide) ?_
  refine va_mmin hx hb (hml.trans hl.1.symm) hown (hts _ wd_56) (hts _ wd_52) (hts _ wd_35) (hts _ wd_53) (Nat.le_of_ble_eq_true rfl) (Nat.le_of_ble_eq_true rfl) (Nat.le_refl _) (Nat.le_refl _) dX1_begin_5 ?_
  refine va_mmax hx hb (hml.trans hl.1.symm) hown (hts _ wd_57) (hts _ wd_34) (hts _ wd_35) (hts _ wd_36) (Nat.le_of_ble_eq_true rfl) (Nat.le_of_ble_eq_true rfl) (Nat.le_refl _) (Nat.le_refl _) dX1_begin_8 ?_
  refine r_put hC hW 0 (Nat.le_of_ble_eq_true rfl) rfl rfl rfl (by decide) inUX1 tyX1 tyX1_ok nmX1 (hts _ wd_58) rfl rfl ⟨rfl, rfl⟩ dX1_begin_11 (fun σ1 eσ1 H locs hWn => ?_)
  replace h := bn eσ1 h
  replace hW := hWn
  clear hWn eσ1
  refine lv_aload_n hx hb dX1_begin_14 rfl (lv_at hl 0 rfl) ?_
  refine lv_iconst (v := 0) hx hb dX1_begin_15 (by decide) ?_
  refine r_put hC hW 1 (Nat.le_of_ble_eq_true rfl) rfl rfl rfl (by decide) inUX1 tyX1 tyX1_ok nmX1 (hts _ wd_59) rfl rfl ⟨rfl, rfl⟩ dX1_begin_16 (fun σ2 eσ2 H locs hWn => ?_)
  replace h := bn eσ2 h
  replace hW := hWn
  clear hWn eσ2
  refine lv_aload_n hx hb dX1_begin_19 rfl (lv_at hl 0 rfl) ?_
  refine r_getr hC hW 4 (Nat.le_of_ble_eq_true rfl) rfl rfl rfl (by decide) inUX1 (hts _ wd_54) rfl dX1_begin_20 ?_
  refine lv_iconst (v := 0) hx hb dX1_begin_23 (by decide) ?_
  replace h := bd h
  obtain ⟨σ3, hc, h⟩ := h
  refine r_callv hW (va_runSN (As := [.ref (ad 41), .int 0]) (rest := []) hC.1 (c_X6_putAll l D cy ad A N 41 49 ⟨Nat.le_of_ble_eq_true rfl, rfl⟩ _ _ _ hc) ⟨va_cnB 2 hts (gdN wd_60) rfl rfl rfl (NL.at hC.2.2 nw_RX1_65 rfl) (hts _ wd_5) (by decide +kernel) ⟨Nat.le_of_ble_eq_true rfl, Nat.le_of_ble_eq_true rfl⟩, hts _ wd_61, trivial⟩ (r_preS hC hW) rfl rfl hl.1 rfl (lv_room (Nat.le_of_ble_eq_true rfl)) dX1_begin_24 ⟨Nat.zero_le _, Nat.zero_le _⟩) (fun H locs hWn => ?_)
  replace hW := hWn
  clear hWn hc
  refine lv_aload_n hx hb dX1_begin_27 rfl (lv_at hl 0 rfl) ?_
  refine r_getr hC hW 5 (Nat.le_of_ble_eq_true rfl) rfl rfl rfl (by decide) inUX1 (hts _ wd_55) rfl dX1_begin_28 ?_
  refine lv_iconst (v := 0) hx hb dX1_begin_31 (by decide) ?_
  replace h := bd h
  obtain ⟨σ4, hc, h⟩ := h
  refine r_callv hW (va_runSN (As := [.ref (ad 42), .int 0]) (rest := []) hC.1 (c_X6_putAll l D cy ad A N 42 7 ⟨Nat.le_of_ble_eq_true rfl, rfl⟩ _ _ _ hc) ⟨va_cnB 2 hts (gdN wd_60) rfl rfl rfl (NL.at hC.2.2 nw_RX1_65 rfl) (hts _ wd_5) (by decide +kernel) ⟨Nat.le_of_ble_eq_true rfl, Nat.le_of_ble_eq_true rfl⟩, hts _ wd_61, trivial⟩ (r_preS hC hW) rfl rfl hl.1 rfl (lv_room (Nat.le_of_ble_eq_true rfl)) dX1_begin_32 ⟨Nat.zero_le _, Nat.zero_le _⟩) (fun H locs hWn => ?_)
  replace hW := hWn
  clear hWn hc
  refine lv_aload_n hx hb dX1_begin_35 rfl (lv_at hl 0 rfl) ?_
  refine r_getr hC hW 6 (Nat.le_of_ble_eq_true rfl) rfl rfl rfl (by decide) inUX1 (hts _ wd_62) rfl dX1_begin_36 ?_
  refine lv_bipush (v := 7) hx hb dX1_begin_39 (by decide) ?_
  replace h := bd h
  obtain ⟨r5, hc, h⟩ := h
  refine r_calli hW (va_runSN (As := [.int 7]) (rest := [.ref (ad 43)]) hC.1 (c_X6_bit l D cy ad A _ _ _ hc) ⟨va_cnB 1 hts (gdN wd_25) rfl rfl rfl (NL.at hC.2.2 nw_RX1_69 rfl) (hts _ wd_5) (by decide +kernel) ⟨Nat.le_of_ble_eq_true rfl, Nat.le_of_ble_eq_true rfl⟩, hts _ wd_26, trivial⟩ (r_preS hC hW) rfl rfl hl.1 rfl (lv_room (Nat.le_of_ble_eq_true rfl)) dX1_begin_41 ⟨Nat.zero_le _, Nat.zero_le _⟩) (fun H locs hWn => ?_)
  replace hW := hWn
  clear hWn hc
  refine lv_iconst (v := 1) hx hb dX1_begin_44 (by decide) ?_
  refine lv_isub hx hb dX1_begin_45 ?_
  replace h := bd h
  obtain ⟨σ6, hc, h⟩ := h
  refine r_callv hW (va_runSN (As := [.ref (ad 43), .int (r5 - 1)]) (rest := []) hC.1 (c_X6_putAll l D cy ad A N 43 7 ⟨Nat.le_of_ble_eq_true rfl, rfl⟩ _ _ _ hc) ⟨va_cnB 2 hts (gdN wd_60) rfl rfl rfl (NL.at hC.2.2 nw_RX1_65 rfl) (hts _ wd_5) (by decide +kernel) ⟨Nat.le_of_ble_eq_true rfl, Nat.le_of_ble_eq_true rfl⟩, hts _ wd_61, trivial⟩ (r_preS hC hW) rfl rfl hl.1 rfl (lv_room (Nat.le_of_ble_eq_true rfl)) dX1_begin_46 ⟨Nat.zero_le _, Nat.zero_le _⟩) (fun H locs hWn => ?_)
  replace hW := hWn
  clear hWn hc
  refine lv_aload_n hx hb dX1_begin_49 rfl (lv_at hl 0 rfl) ?_
  refine r_getr hC hW 7 (Nat.le_of_ble_eq_true rfl) rfl rfl rfl (by decide) inUX1 (hts _ wd_63) rfl dX1_begin_50 ?_
  refine lv_iconst (v := 0) hx hb dX1_begin_53 (by decide) ?_
  replace h := bd h
  obtain ⟨σ7, hc, h⟩ := h
  refine r_callv hW (va_runSN (As := [.ref (ad 44), .int 0]) (rest := []) hC.1 (c_X6_putAll l D cy ad A N 44 7 ⟨Nat.le_of_ble_eq_true rfl, rfl⟩ _ _ _ hc) ⟨va_cnB 2 hts (gdN wd_60) rfl rfl rfl (NL.at hC.2.2 nw_RX1_65 rfl) (hts _ wd_5) (by decide +kernel) ⟨Nat.le_of_ble_eq_true rfl, Nat.le_of_ble_eq_true rfl⟩, hts _ wd_61, trivial⟩ (r_preS hC hW) rfl rfl hl.1 rfl (lv_room (Nat.le_of_ble_eq_true rfl)) dX1_begin_54 ⟨Nat.zero_le _, Nat.zero_le _⟩) (fun H locs hWn => ?_)
  replace hW := hWn
  clear hWn hc
  refine lv_aload_n hx hb dX1_begin_57 rfl (lv_at hl 0 rfl) ?_
  refine r_getr hC hW 8 (Nat.le_of_ble_eq_true rfl) rfl rfl rfl (by decide) inUX1 (hts _ wd_64) rfl dX1_begin_58 ?_
  refine lv_iconst (v := 0) hx hb dX1_begin_61 (by decide) ?_
  replace h := bd h
  obtain ⟨σ8, hc, h⟩ := h
  refine r_callv hW (va_runSN (As := [.ref (ad 45), .int 0]) (rest := []) hC.1 (c_X6_putAll l D cy ad A N 45 7 ⟨Nat.le_of_ble_eq_true rfl, rfl⟩ _ _ _ hc) ⟨va_cnB 2 hts (gdN wd_60) rfl rfl rfl (NL.at hC.2.2 nw_RX1_65 rfl) (hts _ wd_5) (by decide +kernel) ⟨Nat.le_of_ble_eq_true rfl, Nat.le_of_ble_eq_true rfl⟩, hts _ wd_61, trivial⟩ (r_preS hC hW) rfl rfl hl.1 rfl (lv_room (Nat.le_of_ble_eq_true rfl)) dX1_begin_62 ⟨Nat.zero_le _, Nat.zero_le _⟩) (fun H locs hWn => ?_)
  replace hW := hWn
  clear hWn hc
  refine lv_aload_n hx hb dX1_begin_65 rfl (lv_at hl 0 rfl) ?_
  refine r_getr hC hW 9 (Nat.le_of_ble_eq_true rfl) rfl rfl rfl (by decide) inUX1 (hts _ wd_65) rfl dX1_begin_66 ?_
  refine lv_iconst (v := 0) hx hb dX1_begin_69 (by decide) ?_
  replace h := bd h
  obtain ⟨σ9, hc, h⟩ := h
  refine r_callv hW (va_runSN (As := [.ref (ad 46), .int 0]) (rest := []) hC.1 (c_X6_putAll l D cy ad A N 46 7 ⟨Nat.le_of_ble_eq_true rfl, rfl⟩ _ _ _ hc) ⟨va_cnB 2 hts (gdN wd_60) rfl rfl rfl (NL.at hC.2.2 nw_RX1_65 rfl) (hts _ wd_5) (by decide +kernel) ⟨Nat.le_of_ble_eq_true rfl, Nat.le_of_ble_eq_true rfl⟩, hts _ wd_61, trivial⟩ (r_preS hC hW) rfl rfl hl.1 rfl (lv_room (Nat.le_of_ble_eq_true rfl)) dX1_begin_70 ⟨Nat.zero_le _, Nat.zero_le _⟩) (fun H locs hWn => ?_)
  replace hW := hWn
  clear hWn hc
  refine lv_aload_n hx hb dX1_begin_73 rfl (lv_at hl 0 rfl) ?_
  refine r_getr hC hW 10 (Nat.le_of_ble_eq_true rfl) rfl rfl rfl (by decide) inUX1 (hts _ wd_66) rfl dX1_begin_74 ?_
  refine lv_iconst (v := (-1)) hx hb dX1_begin_77 (by decide) ?_
  replace h := bd h
  obtain ⟨σ10, hc, h⟩ := h
  refine r_callv hW (va_runSN (As := [.ref (ad 47), .int (-1)]) (rest := []) hC.1 (c_X6_putAll l D cy ad A N 47 7 ⟨Nat.le_of_ble_eq_true rfl, rfl⟩ _ _ _ hc) ⟨va_cnB 2 hts (gdN wd_60) rfl rfl rfl (NL.at hC.2.2 nw_RX1_65 rfl) (hts _ wd_5) (by decide +kernel) ⟨Nat.le_of_ble_eq_true rfl, Nat.le_of_ble_eq_true rfl⟩, hts _ wd_61, trivial⟩ (r_preS hC hW) rfl rfl hl.1 rfl (lv_room (Nat.le_of_ble_eq_true rfl)) dX1_begin_78 ⟨Nat.zero_le _, Nat.zero_le _⟩) (fun H locs hWn => ?_)
  replace hW := hWn
  clear hWn hc
  refine lv_aload_n hx hb dX1_begin_81 rfl (lv_at hl 0 rfl) ?_
  refine r_getr hC hW 11 (Nat.le_of_ble_eq_true rfl) rfl rfl rfl (by decide) inUX1 (hts _ wd_67) rfl dX1_begin_82 ?_
  refine lv_iconst (v := (-1)) hx hb dX1_begin_85 (by decide) ?_
  replace h := bd h
  obtain ⟨σ11, hc, h⟩ := h
  refine r_callv hW (va_runSN (As := [.ref (ad 48), .int (-1)]) (rest := []) hC.1 (c_X6_putAll l D cy ad A N 48 7 ⟨Nat.le_of_ble_eq_true rfl, rfl⟩ _ _ _ hc) ⟨va_cnB 2 hts (gdN wd_60) rfl rfl rfl (NL.at hC.2.2 nw_RX1_65 rfl) (hts _ wd_5) (by decide +kernel) ⟨Nat.le_of_ble_eq_true rfl, Nat.le_of_ble_eq_true rfl⟩, hts _ wd_61, trivial⟩ (r_preS hC hW) rfl rfl hl.1 rfl (lv_room (Nat.le_of_ble_eq_true rfl)) dX1_begin_86 ⟨Nat.zero_le _, Nat.zero_le _⟩) (fun H locs hWn => ?_)
  replace hW := hWn
  clear hWn hc
  exact r_vretW hC hr hlocks h hW dX1_begin_89
set_option maxHeartbeats 4000000 in
set_option maxRecDepth 100000 in
theorem c_X1_canBeLaid (l : Launch) (D : va_G) (cy : ClassId × ClassId) (ad : Nat → Nat) (A : Nat → Prop) (p0 : Int32) (p1 : Int32) (p2 : Int32) (σ : Hp) (r : Int32) (h : t_X1_canBeLaid p0 p1 p2 σ = some r) : Ci l yX1_canBeLaid us_X1_canBeLaid ({ frames := 1, cells := 0, slots := 0, locals := 21 } : Room) D cy 55 shX ad A [.ref (ad 38), .int p0, .int p1, .int p2] σ r σ := by
  unfold t_X1_canBeLaid at h
  refine Met.ofW (cc := cX1_canBeLaid) (maxL := 5) (ret := (some .boolean)) (by decide) rfl ?_
  intro p e s m args below meth c s₁ B hml hv
  obtain ⟨rfl, hP, hK, hD, hA, hN⟩ := hv
  have hx := B.exec
  have hb := B.bytes
  have hr := B.returns
  have hlocks := B.notSynchronized
  have hts : ∀ w ∈ wsU, w.before _ s = true := fun w h => atoms_spec (ws := us_X1_canBeLaid) B.pre w (List.mem_cons_of_mem _ h)
  have hown : s.vm.findClass RX1 = some m.cls := findClass_of_methodNamed B.named
  have hC : Cx p m c cX1_canBeLaid 5 s _ wsU RX1 D cy := ⟨⟨hx, hb, hml, hown, hts⟩, hK, hN⟩
  have hW : Wd D cy 55 shX ad A s.heap σ s.heap [] := ⟨hP, hD, va_S.rf, hA⟩
  have hl := lv_entry ([.ref (ad 38), .int p0, .int p1, .int p2]) (n := 5) (Nat.le_of_ble_eq_true rfl)
  rw [lg_entry_eq]
  generalize (lg_sl ([.ref (ad 38), .int p0, .int p1, .int p2]) ++ List.replicate (5 - (lg_sl ([.ref (ad 38), .int p0, .int p1, .int p2])).length) Slot.unset).toArray = ls at hl ⊢
  have hl : lv_has ls 5 [(0, .ref (ad 38)), (1, .int p0), (2, .int p1), (3, .int p2)] := hl
  have J69 : t_X1_canBeLaid_69  σ = some r → ∀ (H : Heap) (locs : List Loc), Wd D cy 55 shX ad A s.heap σ H locs → ∀ ls : Array Slot, lv_has ls 5 [] → Gi p l e us_X1_canBeLaid ({ frames := 1, cells := 0, slots := 0, locals := 21 } : Room) s m [.ref (ad 38), .int p0, .int p1, .int p2] below meth c D cy 55 shX ad A r σ H locs (F0 m 69 ls []) := by
    intro  h H locs hW ls hl
    unfold t_X1_canBeLaid_69 at h
    refine lv_iconst (v := 1) hx hb dX1_canBeLaid_69 (by decide) ?_
    refine lv_goto (tgt := 74) hx hb dX1_canBeLaid_70 (by decide) ?_
    exact r_zretP (Or.inr rfl) hC hr hlocks h hW dX1_canBeLaid_74
  have J73 : t_X1_canBeLaid_73  σ = some r → ∀ (H : Heap) (locs : List Loc), Wd D cy 55 shX ad A s.heap σ H locs → ∀ ls : Array Slot, lv_has ls 5 [] → Gi p l e us_X1_canBeLaid ({ frames := 1, cells := 0, slots := 0, locals := 21 } : Room) s m [.ref (ad 38), .int p0, .int p1, .int p2] below meth c D cy 55 shX ad A r σ H locs (F0 m 73 ls []) := by
    intro  h H locs hW ls hl
    unfold t_X1_canBeLaid_73 at h
    refine lv_iconst (v := 0) hx hb dX1_canBeLaid_73 (by decide) ?_
    exact r_zretP (Or.inl rfl) hC hr hlocks h hW dX1_canBeLaid_74
  refine lv_aload_n hx hb dX1_canBeLaid_0 rfl (lv_at hl 0 rfl) ?_
  refine r_getr hC hW 6 (Nat.le_of_ble_eq_true rfl) rfl rfl rfl (by decide) inUX1 (hts _ wd_62) rfl dX1_canBeLaid_1 ?_
  refine lv_iload_n hx hb dX1_canBeLaid_4 rfl (lv_at hl 1 rfl) ?_
  replace h := bd h
  obtain ⟨r1, hc, h⟩ := h
  refine r_calli hW (va_runSN (As := [.ref (ad 43), .int p0]) (rest := []) hC.1 (c_X6_at l D cy ad A 43 7 ⟨Nat.le_of_ble_eq_true rfl, rfl⟩ _ _ _ hc) ⟨va_cnB 2 hts (gdN wd_4) rfl rfl rfl (NL.at hC.2.2 nw_RX1_81 rfl) (hts _ wd_5) (by decide +kernel) ⟨Nat.le_of_ble_eq_true rfl, Nat.le_of_ble_eq_true rfl⟩, hts _ wd_6, trivial⟩ (r_preS hC hW) rfl rfl hl.1 rfl (lv_room (Nat.le_of_ble_eq_true rfl)) dX1_canBeLaid_5 ⟨Nat.zero_le _, Nat.zero_le _⟩) (fun H locs hWn => ?_)
  replace hW := hWn
  clear hWn hc
  refine lv_iload_n hx hb dX1_canBeLaid_8 rfl (lv_at hl 2 rfl) ?_
  replace h := bd h
  obtain ⟨r2, hc, h⟩ := h
  refine r_calli hW (va_runSN (As := [.int r1, .int p1]) (rest := []) hC.1 (c_X6_hasBit l D cy ad A _ _ _ _ hc) ⟨va_cnB 2 hts (gdN wd_31) rfl rfl rfl (NL.at hC.2.2 nw_RX1_145 rfl) (hts _ wd_5) (by decide +kernel) ⟨Nat.le_of_ble_eq_true rfl, Nat.le_of_ble_eq_true rfl⟩, hts _ wd_32, trivial⟩ (r_preS hC hW) rfl rfl hl.1 rfl (lv_room (Nat.le_of_ble_eq_true rfl)) dX1_canBeLaid_9 ⟨Nat.zero_le _, Nat.zero_le _⟩) (fun H locs hWn => ?_)
  replace hW := hWn
  clear hWn hc
  refine lv_if_eq (tgt := 30) hx hb dX1_canBeLaid_12 (by decide) (fun cq => ?_) (fun cq => ?_)
  · replace h := tp cq h
    refine lv_iconst (v := 0) hx hb dX1_canBeLaid_30 (by decide) ?_
    exact r_zretP (Or.inl rfl) hC hr hlocks h hW dX1_canBeLaid_31
  · replace h := tn cq h
    refine lv_aload_n hx hb dX1_canBeLaid_15 rfl (lv_at hl 0 rfl) ?_
    refine r_getr hC hW 7 (Nat.le_of_ble_eq_true rfl) rfl rfl rfl (by decide) inUX1 (hts _ wd_63) rfl dX1_canBeLaid_16 ?_
    refine lv_iload_n hx hb dX1_canBeLaid_19 rfl (lv_at hl 1 rfl) ?_
    replace h := bd h
    obtain ⟨r3, hc, h⟩ := h
    refine r_calli hW (va_runSN (As := [.ref (ad 44), .int p0]) (rest := []) hC.1 (c_X6_at l D cy ad A 44 7 ⟨Nat.le_of_ble_eq_true rfl, rfl⟩ _ _ _ hc) ⟨va_cnB 2 hts (gdN wd_4) rfl rfl rfl (NL.at hC.2.2 nw_RX1_81 rfl) (hts _ wd_5) (by decide +kernel) ⟨Nat.le_of_ble_eq_true rfl, Nat.le_of_ble_eq_true rfl⟩, hts _ wd_6, trivial⟩ (r_preS hC hW) rfl rfl hl.1 rfl (lv_room (Nat.le_of_ble_eq_true rfl)) dX1_canBeLaid_20 ⟨Nat.zero_le _, Nat.zero_le _⟩) (fun H locs hWn => ?_)
    replace hW := hWn
    clear hWn hc
    refine lv_iload_n hx hb dX1_canBeLaid_23 rfl (lv_at hl 3 rfl) ?_
    refine lv_iconst (v := (-1)) hx hb dX1_canBeLaid_24 (by decide) ?_
    refine lv_ixor hx hb dX1_canBeLaid_25 ?_
    refine lv_iand hx hb dX1_canBeLaid_26 ?_
    refine lv_if_eq (tgt := 32) hx hb dX1_canBeLaid_27 (by decide) (fun cq => ?_) (fun cq => ?_)
    · replace h := tp cq h
      refine lv_aload_n hx hb dX1_canBeLaid_32 rfl (lv_at hl 0 rfl) ?_
      refine r_getr hC hW 8 (Nat.le_of_ble_eq_true rfl) rfl rfl rfl (by decide) inUX1 (hts _ wd_64) rfl dX1_canBeLaid_33 ?_
      refine lv_iload_n hx hb dX1_canBeLaid_36 rfl (lv_at hl 1 rfl) ?_
      replace h := bd h
      obtain ⟨r4, hc, h⟩ := h
      refine r_calli hW (va_runSN (As := [.ref (ad 45), .int p0]) (rest := []) hC.1 (c_X6_at l D cy ad A 45 7 ⟨Nat.le_of_ble_eq_true rfl, rfl⟩ _ _ _ hc) ⟨va_cnB 2 hts (gdN wd_4) rfl rfl rfl (NL.at hC.2.2 nw_RX1_81 rfl) (hts _ wd_5) (by decide +kernel) ⟨Nat.le_of_ble_eq_true rfl, Nat.le_of_ble_eq_true rfl⟩, hts _ wd_6, trivial⟩ (r_preS hC hW) rfl rfl hl.1 rfl (lv_room (Nat.le_of_ble_eq_true rfl)) dX1_canBeLaid_37 ⟨Nat.zero_le _, Nat.zero_le _⟩) (fun H locs hWn => ?_)
      replace hW := hWn
      clear hWn hc
      refine lv_istore (lv' := [(4, .int r4), (0, .ref (ad 38)), (1, .int p0), (2, .int p1), (3, .int p2)]) hx hb dX1_canBeLaid_40 hl (by decide) rfl (fun ls hln => ?_)
      replace hl := hln
      clear hln
      refine lv_iload hx hb dX1_canBeLaid_42 (lv_at hl 0 rfl) ?_
      refine lv_if_eq (tgt := 69) hx hb dX1_canBeLaid_44 (by decide) (fun cq => ?_) (fun cq => ?_)
      · replace h := tp cq h
        exact J69  h _ _ hW _ (lv_sub hl [] rfl)
      · replace h := tn cq h
        refine lv_iload_n hx hb dX1_canBeLaid_47 rfl (lv_at hl 3 rfl) ?_
        refine lv_if_le (tgt := 73) hx hb dX1_canBeLaid_48 (by decide) (fun cq => ?_) (fun cq => ?_)
        · replace h := tp cq h
          exact J73  h _ _ hW _ (lv_sub hl [] rfl)
        · replace h := tn cq h
          refine lv_iload hx hb dX1_canBeLaid_51 (lv_at hl 0 rfl) ?_
          refine lv_aload_n hx hb dX1_canBeLaid_53 rfl (lv_at hl 1 rfl) ?_
          refine r_getr hC hW 2 (Nat.le_of_ble_eq_true rfl) rfl rfl rfl (by decide) inUX1 (hts _ wd_68) rfl dX1_canBeLaid_54 ?_
          refine lv_iload_n hx hb dX1_canBeLaid_57 rfl (lv_at hl 3 rfl) ?_
          refine lv_iconst (v := 1) hx hb dX1_canBeLaid_58 (by decide) ?_
          refine lv_isub hx hb dX1_canBeLaid_59 ?_
          replace h := bd h
          obtain ⟨r5, hc, h⟩ := h
          refine r_calli hW (va_runSN (As := [.ref (ad 39), .int (p1 - 1)]) (rest := [.int r4]) hC.1 (c_X6_at l D cy ad A 39 7 ⟨Nat.le_of_ble_eq_true rfl, rfl⟩ _ _ _ hc) ⟨va_cnB 2 hts (gdN wd_4) rfl rfl rfl (NL.at hC.2.2 nw_RX1_81 rfl) (hts _ wd_5) (by decide +kernel) ⟨Nat.le_of_ble_eq_true rfl, Nat.le_of_ble_eq_true rfl⟩, hts _ wd_6, trivial⟩ (r_preS hC hW) rfl rfl hl.1 rfl (lv_room (Nat.le_of_ble_eq_true rfl)) dX1_canBeLaid_60 ⟨Nat.zero_le _, Nat.zero_le _⟩) (fun H locs hWn => ?_)
          replace hW := hWn
          clear hWn hc
          replace h := bd h
          obtain ⟨r6, hc, h⟩ := h
          refine r_calli hW (va_runSN (As := [.int r5]) (rest := [.int r4]) hC.1 (c_X6_bit l D cy ad A _ _ _ hc) ⟨va_cnB 1 hts (gdN wd_25) rfl rfl rfl (NL.at hC.2.2 nw_RX1_69 rfl) (hts _ wd_5) (by decide +kernel) ⟨Nat.le_of_ble_eq_true rfl, Nat.le_of_ble_eq_true rfl⟩, hts _ wd_26, trivial⟩ (r_preS hC hW) rfl rfl hl.1 rfl (lv_room (Nat.le_of_ble_eq_true rfl)) dX1_canBeLaid_63 ⟨Nat.zero_le _, Nat.zero_le _⟩) (fun H locs hWn => ?_)
          replace hW := hWn
          clear hWn hc
          refine lv_icmp_ne (tgt := 73) hx hb dX1_canBeLaid_66 (by decide) (fun cq => ?_) (fun cq => ?_)
          · replace h := tn cq h
            exact J73  h _ _ hW _ (lv_sub hl [] rfl)
          · replace h := tp cq h
            exact J69  h _ _ hW _ (lv_sub hl [] rfl)
    · replace h := tn cq h
      refine lv_iconst (v := 0) hx hb dX1_canBeLaid_30 (by decide) ?_
      exact r_zretP (Or.inl rfl) hC hr hlocks h hW dX1_canBeLaid_31
set_option maxHeartbeats 4000000 in
set_option maxRecDepth 100000 in
theorem c_X1_canHatchIn (l : Launch) (D : va_G) (cy : ClassId × ClassId) (ad : Nat → Nat) (A : Nat → Prop) (p0 : Int32) (p1 : Int32) (σ : Hp) (r : Int32) (h : t_X1_canHatchIn p0 p1 σ = some r) : Ci l yX1_canHatchIn us_X1_canHatchIn ({ frames := 1, cells := 0, slots := 0, locals := 21 } : Room) D cy 55 shX ad A [.ref (ad 38), .int p0, .int p1] σ r σ := by
  unfold t_X1_canHatchIn at h
  refine Met.ofW (cc := cX1_canHatchIn) (maxL := 4) (ret := (some .boolean)) (by decide) rfl ?_
  intro p e s m args below meth c s₁ B hml hv
  obtain ⟨rfl, hP, hK, hD, hA, hN⟩ := hv
  have hx := B.exec
  have hb := B.bytes
  have hr := B.returns
  have hlocks := B.notSynchronized
  have hts : ∀ w ∈ wsU, w.before _ s = true := fun w h => atoms_spec (ws := us_X1_canHatchIn) B.pre w (List.mem_cons_of_mem _ h)
  have hown : s.vm.findClass RX1 = some m.cls := findClass_of_methodNamed B.named
  have hC : Cx p m c cX1_canHatchIn 4 s _ wsU RX1 D cy := ⟨⟨hx, hb, hml, hown, hts⟩, hK, hN⟩
  have hW : Wd D cy 55 shX ad A s.heap σ s.heap [] := ⟨hP, hD, va_S.rf, hA⟩
  have hl := lv_entry ([.ref (ad 38), .int p0, .int p1]) (n := 4) (Nat.le_of_ble_eq_true rfl)
  rw [lg_entry_eq]
  generalize (lg_sl ([.ref (ad 38), .int p0, .int p1]) ++ List.replicate (4 - (lg_sl ([.ref (ad 38), .int p0, .int p1])).length) Slot.unset).toArray = ls at hl ⊢
  have hl : lv_has ls 4 [(0, .ref (ad 38)), (1, .int p0), (2, .int p1)] := hl
  have J35 : t_X1_canHatchIn_35  σ = some r → ∀ (H : Heap) (locs : List Loc), Wd D cy 55 shX ad A s.heap σ H locs → ∀ ls : Array Slot, lv_has ls 4 [] → Gi p l e us_X1_canHatchIn ({ frames := 1, cells := 0, slots := 0, locals := 21 } : Room) s m [.ref (ad 38), .int p0, .int p1] below meth c D cy 55 shX ad A r σ H locs (F0 m 35 ls []) := by
    intro  h H locs hW ls hl
    unfold t_X1_canHatchIn_35 at h
    refine lv_iconst (v := 0) hx hb dX1_canHatchIn_35 (by decide) ?_
    exact r_zretP (Or.inl rfl) hC hr hlocks h hW dX1_canHatchIn_36
  have J31 : t_X1_canHatchIn_31  σ = some r → ∀ (H : Heap) (locs : List Loc), Wd D cy 55 shX ad A s.heap σ H locs → ∀ ls : Array Slot, lv_has ls 4 [] → Gi p l e us_X1_canHatchIn ({ frames := 1, cells := 0, slots := 0, locals := 21 } : Room) s m [.ref (ad 38), .int p0, .int p1] below meth c D cy 55 shX ad A r σ H locs (F0 m 31 ls []) := by
    intro  h H locs hW ls hl
    unfold t_X1_canHatchIn_31 at h
    refine lv_iconst (v := 1) hx hb dX1_canHatchIn_31 (by decide) ?_
    refine lv_goto (tgt := 36) hx hb dX1_canHatchIn_32 (by decide) ?_
    exact r_zretP (Or.inr rfl) hC hr hlocks h hW dX1_canHatchIn_36
  refine lv_aload_n hx hb dX1_canHatchIn_0 rfl (lv_at hl 0 rfl) ?_
  refine r_getr hC hW 11 (Nat.le_of_ble_eq_true rfl) rfl rfl rfl (by decide) inUX1 (hts _ wd_67) rfl dX1_canHatchIn_1 ?_
  refine lv_iload_n hx hb dX1_canHatchIn_4 rfl (lv_at hl 1 rfl) ?_
  replace h := bd h
  obtain ⟨r1, hc, h⟩ := h
  refine r_calli hW (va_runSN (As := [.ref (ad 48), .int p0]) (rest := []) hC.1 (c_X6_at l D cy ad A 48 7 ⟨Nat.le_of_ble_eq_true rfl, rfl⟩ _ _ _ hc) ⟨va_cnB 2 hts (gdN wd_4) rfl rfl rfl (NL.at hC.2.2 nw_RX1_81 rfl) (hts _ wd_5) (by decide +kernel) ⟨Nat.le_of_ble_eq_true rfl, Nat.le_of_ble_eq_true rfl⟩, hts _ wd_6, trivial⟩ (r_preS hC hW) rfl rfl hl.1 rfl (lv_room (Nat.le_of_ble_eq_true rfl)) dX1_canHatchIn_5 ⟨Nat.zero_le _, Nat.zero_le _⟩) (fun H locs hWn => ?_)
  replace hW := hWn
  clear hWn hc
  refine lv_istore_n (lv' := [(3, .int r1), (0, .ref (ad 38)), (1, .int p0), (2, .int p1)]) hx hb dX1_canHatchIn_8 rfl hl (by decide) rfl (fun ls hln => ?_)
  replace hl := hln
  clear hln
  refine lv_iload_n hx hb dX1_canHatchIn_9 rfl (lv_at hl 3 rfl) ?_
  refine lv_aload_n hx hb dX1_canHatchIn_10 rfl (lv_at hl 1 rfl) ?_
  refine r_getr hC hW 10 (Nat.le_of_ble_eq_true rfl) rfl rfl rfl (by decide) inUX1 (hts _ wd_66) rfl dX1_canHatchIn_11 ?_
  refine lv_iload_n hx hb dX1_canHatchIn_14 rfl (lv_at hl 2 rfl) ?_
  replace h := bd h
  obtain ⟨r2, hc, h⟩ := h
  refine r_calli hW (va_runSN (As := [.ref (ad 47), .int p0]) (rest := [.int p1]) hC.1 (c_X6_at l D cy ad A 47 7 ⟨Nat.le_of_ble_eq_true rfl, rfl⟩ _ _ _ hc) ⟨va_cnB 2 hts (gdN wd_4) rfl rfl rfl (NL.at hC.2.2 nw_RX1_81 rfl) (hts _ wd_5) (by decide +kernel) ⟨Nat.le_of_ble_eq_true rfl, Nat.le_of_ble_eq_true rfl⟩, hts _ wd_6, trivial⟩ (r_preS hC hW) rfl rfl hl.1 rfl (lv_room (Nat.le_of_ble_eq_true rfl)) dX1_canHatchIn_15 ⟨Nat.zero_le _, Nat.zero_le _⟩) (fun H locs hWn => ?_)
  replace hW := hWn
  clear hWn hc
  refine lv_icmp_le (tgt := 35) hx hb dX1_canHatchIn_18 (by decide) (fun cq => ?_) (fun cq => ?_)
  · replace h := tp cq h
    exact J35  h _ _ hW _ (lv_sub hl [] rfl)
  · replace h := tn cq h
    refine lv_iload_n hx hb dX1_canHatchIn_21 rfl (lv_at hl 0 rfl) ?_
    refine lv_iconst (v := (-1)) hx hb dX1_canHatchIn_22 (by decide) ?_
    refine lv_icmp_eq (tgt := 31) hx hb dX1_canHatchIn_23 (by decide) (fun cq => ?_) (fun cq => ?_)
    · replace h := tp cq h
      exact J31  h _ _ hW _ (lv_sub hl [] rfl)
    · replace h := tn cq h
      refine lv_iload_n hx hb dX1_canHatchIn_26 rfl (lv_at hl 0 rfl) ?_
      refine lv_iload_n hx hb dX1_canHatchIn_27 rfl (lv_at hl 3 rfl) ?_
      refine lv_icmp_ne (tgt := 35) hx hb dX1_canHatchIn_28 (by decide) (fun cq => ?_) (fun cq => ?_)
      · replace h := tn cq h
        exact J35  h _ _ hW _ (lv_sub hl [] rfl)
      · replace h := tp cq h
        exact J31  h _ _ hW _ (lv_sub hl [] rfl)
set_option maxHeartbeats 4000000 in
set_option maxRecDepth 100000 in
theorem c_X1_ordersWith (l : Launch) (D : va_G) (cy : ClassId × ClassId) (ad : Nat → Nat) (A : Nat → Prop) (p0 : Int32) (p1 : Int32) (σ : Hp) (r : Int32) (h : t_X1_ordersWith p0 p1 σ = some r) : Ci l yX1_ordersWith us_X1_ordersWith ({ frames := 1, cells := 0, slots := 0, locals := 21 } : Room) D cy 55 shX ad A [.ref (ad 38), .int p0, .int p1] σ r σ := by
  unfold t_X1_ordersWith at h
  refine Met.ofW (cc := cX1_ordersWith) (maxL := 3) (ret := (some .int)) (by decide) rfl ?_
  intro p e s m args below meth c s₁ B hml hv
  obtain ⟨rfl, hP, hK, hD, hA, hN⟩ := hv
  have hx := B.exec
  have hb := B.bytes
  have hr := B.returns
  have hlocks := B.notSynchronized
  have hts : ∀ w ∈ wsU, w.before _ s = true := fun w h => atoms_spec (ws := us_X1_ordersWith) B.pre w (List.mem_cons_of_mem _ h)
  have hown : s.vm.findClass RX1 = some m.cls := findClass_of_methodNamed B.named
  have hC : Cx p m c cX1_ordersWith 3 s _ wsU RX1 D cy := ⟨⟨hx, hb, hml, hown, hts⟩, hK, hN⟩
  have hW : Wd D cy 55 shX ad A s.heap σ s.heap [] := ⟨hP, hD, va_S.rf, hA⟩
  have hl := lv_entry ([.ref (ad 38), .int p0, .int p1]) (n := 3) (Nat.le_of_ble_eq_true rfl)
  rw [lg_entry_eq]
  generalize (lg_sl ([.ref (ad 38), .int p0, .int p1]) ++ List.replicate (3 - (lg_sl ([.ref (ad 38), .int p0, .int p1])).length) Slot.unset).toArray = ls at hl ⊢
  have hl : lv_has ls 3 [(0, .ref (ad 38)), (1, .int p0), (2, .int p1)] := hl
  refine lv_aload_n hx hb dX1_ordersWith_0 rfl (lv_at hl 0 rfl) ?_
  refine r_getr hC hW 4 (Nat.le_of_ble_eq_true rfl) rfl rfl rfl (by decide) inUX1 (hts _ wd_54) rfl dX1_ordersWith_1 ?_
  refine lv_iload_n hx hb dX1_ordersWith_4 rfl (lv_at hl 1 rfl) ?_
  refine lv_bipush (v := 7) hx hb dX1_ordersWith_5 (by decide) ?_
  refine lv_imul hx hb dX1_ordersWith_7 ?_
  refine lv_iload_n hx hb dX1_ordersWith_8 rfl (lv_at hl 2 rfl) ?_
  refine lv_iadd hx hb dX1_ordersWith_9 ?_
  replace h := bd h
  obtain ⟨r1, hc, h⟩ := h
  refine r_calli hW (va_runSN (As := [.ref (ad 41), .int ((p0 * 7) + p1)]) (rest := []) hC.1 (c_X6_at l D cy ad A 41 49 ⟨Nat.le_of_ble_eq_true rfl, rfl⟩ _ _ _ hc) ⟨va_cnB 2 hts (gdN wd_4) rfl rfl rfl (NL.at hC.2.2 nw_RX1_81 rfl) (hts _ wd_5) (by decide +kernel) ⟨Nat.le_of_ble_eq_true rfl, Nat.le_of_ble_eq_true rfl⟩, hts _ wd_6, trivial⟩ (r_preS hC hW) rfl rfl hl.1 rfl (lv_room (Nat.le_of_ble_eq_true rfl)) dX1_ordersWith_10 ⟨Nat.zero_le _, Nat.zero_le _⟩) (fun H locs hWn => ?_)
  replace hW := hWn
  clear hWn hc
  exact r_iretP hC hr hlocks h hW dX1_ordersWith_13
set_option maxHeartbeats 4000000 in
set_option maxRecDepth 100000 in
theorem c_X1_eggsAtFirstPlace (l : Launch) (D : va_G) (cy : ClassId × ClassId) (ad : Nat → Nat) (A : Nat → Prop) (N : Nat) (σ : Hp) (r : Int32) (h : t_X1_eggsAtFirstPlace N σ = some r) : Ci l yX1_eggsAtFirstPlace us_X1_eggsAtFirstPlace ({ frames := 2, cells := 0, slots := 0, locals := 43 } : Room) D cy 55 shX ad A [.ref (ad 38)] σ r σ := by
  unfold t_X1_eggsAtFirstPlace at h
  refine Met.ofW (cc := cX1_eggsAtFirstPlace) (maxL := 3) (ret := (some .int)) (by decide) rfl ?_
  intro p e s m args below meth c s₁ B hml hv
  obtain ⟨rfl, hP, hK, hD, hA, hN⟩ := hv
  have hx := B.exec
  have hb := B.bytes
  have hr := B.returns
  have hlocks := B.notSynchronized
  have hts : ∀ w ∈ wsU, w.before _ s = true := fun w h => atoms_spec (ws := us_X1_eggsAtFirstPlace) B.pre w (List.mem_cons_of_mem _ h)
  have hown : s.vm.findClass RX1 = some m.cls := findClass_of_methodNamed B.named
  have hC : Cx p m c cX1_eggsAtFirstPlace 3 s _ wsU RX1 D cy := ⟨⟨hx, hb, hml, hown, hts⟩, hK, hN⟩
  have hW : Wd D cy 55 shX ad A s.heap σ s.heap [] := ⟨hP, hD, va_S.rf, hA⟩
  have hl := lv_entry ([.ref (ad 38)]) (n := 3) (Nat.le_of_ble_eq_true rfl)
  rw [lg_entry_eq]
  generalize (lg_sl ([.ref (ad 38)]) ++ List.replicate (3 - (lg_sl ([.ref (ad 38)])).length) Slot.unset).toArray = ls at hl ⊢
  have hl : lv_has ls 3 [(0, .ref (ad 38))] := hl
  have L4 : ∀ (f : Nat) (v1 : Int32) (v2 : Int32), t_X1_eggsAtFirstPlace_4 N f v1 v2 σ = some r → ∀ (H : Heap) (locs : List Loc), Wd D cy 55 shX ad A s.heap σ H locs → ∀ ls : Array Slot, lv_has ls 3 [(0, .ref (ad 38)), (1, .int v1), (2, .int v2)] → Gi p l e us_X1_eggsAtFirstPlace ({ frames := 2, cells := 0, slots := 0, locals := 43 } : Room) s m [.ref (ad 38)] below meth c D cy 55 shX ad A r σ H locs (F0 m 4 ls []) := by
    intro f
    unfold t_X1_eggsAtFirstPlace_4
    refine loopG_ind (fun (T : Int32 → Int32 → Hp → Option Int32) => ∀ (v1 : Int32) (v2 : Int32), T v1 v2 σ = some r → ∀ (H : Heap) (locs : List Loc), Wd D cy 55 shX ad A s.heap σ H locs → ∀ ls : Array Slot, lv_has ls 3 [(0, .ref (ad 38)), (1, .int v1), (2, .int v2)] → Gi p l e us_X1_eggsAtFirstPlace ({ frames := 2, cells := 0, slots := 0, locals := 43 } : Room) s m [.ref (ad 38)] below meth c D cy 55 shX ad A r σ H locs (F0 m 4 ls [])) ?_ ?_ f
    · intro v1 v2 h; exact absurd h (by simp)
    · intro k4 ih4
      have J28 : ∀ (v1 : Int32) (v2 : Int32), t_X1_eggsAtFirstPlace_28 N k4 v1 v2 σ = some r → ∀ (H : Heap) (locs : List Loc), Wd D cy 55 shX ad A s.heap σ H locs → ∀ ls : Array Slot, lv_has ls 3 [(0, .ref (ad 38)), (1, .int v1), (2, .int v2)] → Gi p l e us_X1_eggsAtFirstPlace ({ frames := 2, cells := 0, slots := 0, locals := 43 } : Room) s m [.ref (ad 38)] below meth c D cy 55 shX ad A r σ H locs (F0 m 28 ls []) := by
        intro v1 v2 h H locs hW ls hl
        unfold t_X1_eggsAtFirstPlace_28 at h
        replace h := bx h
        obtain ⟨x1, ex1, h⟩ := h
        refine lv_iinc (v := x1) (lv' := [(2, .int x1), (0, .ref (ad 38)), (1, .int v1)]) hx hb dX1_eggsAtFirstPlace_28 hl (k := 2) rfl (by rw [ex1]; rfl) (by decide) rfl (fun ls hln => ?_)
        replace hl := hln
        clear hln ex1
        refine lv_goto (tgt := 4) hx hb dX1_eggsAtFirstPlace_31 (by decide) ?_
        exact ih4 _ _ h _ _ hW _ (lv_sub hl [1, 2, 0] rfl)
      intro v1 v2 h H locs hW ls hl
      refine lv_iload_n hx hb dX1_eggsAtFirstPlace_4 rfl (lv_at hl 2 rfl) ?_
      refine lv_aload_n hx hb dX1_eggsAtFirstPlace_5 rfl (lv_at hl 0 rfl) ?_
      refine r_geti hC hW 0 (Nat.le_of_ble_eq_true rfl) rfl rfl rfl (by decide) inUX1 (hts _ wd_58) rfl dX1_eggsAtFirstPlace_6 ?_
      refine lv_icmp_ge (tgt := 34) hx hb dX1_eggsAtFirstPlace_9 (by decide) (fun cq => ?_) (fun cq => ?_)
      · replace h := tp cq h
        refine lv_iload_n hx hb dX1_eggsAtFirstPlace_34 rfl (lv_at hl 1 rfl) ?_
        exact r_iretP hC hr hlocks h hW dX1_eggsAtFirstPlace_35
      · replace h := tn cq h
        refine lv_aload_n hx hb dX1_eggsAtFirstPlace_12 rfl (lv_at hl 0 rfl) ?_
        refine lv_iload_n hx hb dX1_eggsAtFirstPlace_13 rfl (lv_at hl 2 rfl) ?_
        refine lv_iconst (v := 0) hx hb dX1_eggsAtFirstPlace_14 (by decide) ?_
        replace h := bd h
        obtain ⟨r2, hc, h⟩ := h
        refine r_calli hW (va_runV (As := [.int v2, .int 0]) (rest := []) hC.1 (c_X1_ordersWith l D cy ad A _ _ _ _ hc) (cwV 2 hts (gdV wd_70 wd_71 wd_72 wd_73 wd_69) rfl rfl rfl (by decide +kernel) ⟨Nat.le_of_ble_eq_true rfl, Nat.le_of_ble_eq_true rfl⟩) (r_preV hC hW (Nat.le_of_ble_eq_true rfl) rfl rfl) rfl rfl hl.1 rfl (lv_room (Nat.le_of_ble_eq_true rfl)) dX1_eggsAtFirstPlace_15 ⟨Nat.zero_le _, Nat.zero_le _⟩) (fun H locs hWn => ?_)
        replace hW := hWn
        clear hWn hc
        refine lv_if_le (tgt := 28) hx hb dX1_eggsAtFirstPlace_18 (by decide) (fun cq => ?_) (fun cq => ?_)
        · replace h := tp cq h
          exact J28 _ _ h _ _ hW _ (lv_sub hl [0, 1, 2] rfl)
        · replace h := tn cq h
          refine lv_iload_n hx hb dX1_eggsAtFirstPlace_21 rfl (lv_at hl 1 rfl) ?_
          refine lv_iload_n hx hb dX1_eggsAtFirstPlace_22 rfl (lv_at hl 2 rfl) ?_
          replace h := bd h
          obtain ⟨r3, hc, h⟩ := h
          refine r_calli hW (va_runSN (As := [.int v2]) (rest := [.int v1]) hC.1 (c_X6_bit l D cy ad A _ _ _ hc) ⟨va_cnB 1 hts (gdN wd_25) rfl rfl rfl (NL.at hC.2.2 nw_RX1_69 rfl) (hts _ wd_5) (by decide +kernel) ⟨Nat.le_of_ble_eq_true rfl, Nat.le_of_ble_eq_true rfl⟩, hts _ wd_26, trivial⟩ (r_preS hC hW) rfl rfl hl.1 rfl (lv_room (Nat.le_of_ble_eq_true rfl)) dX1_eggsAtFirstPlace_23 ⟨Nat.zero_le _, Nat.zero_le _⟩) (fun H locs hWn => ?_)
          replace hW := hWn
          clear hWn hc
          refine lv_ior hx hb dX1_eggsAtFirstPlace_26 ?_
          replace h := bx h
          obtain ⟨x4, ex4, h⟩ := h
          refine tope ex4 ?_
          clear ex4
          refine lv_istore_n (lv' := [(1, .int x4), (0, .ref (ad 38)), (2, .int v2)]) hx hb dX1_eggsAtFirstPlace_27 rfl hl (by decide) rfl (fun ls hln => ?_)
          replace hl := hln
          clear hln
          exact J28 _ _ h _ _ hW _ (lv_sub hl [1, 0, 2] rfl)
  refine lv_iconst (v := 0) hx hb dX1_eggsAtFirstPlace_0 (by decide) ?_
  refine lv_istore_n (lv' := [(1, .int 0), (0, .ref (ad 38))]) hx hb dX1_eggsAtFirstPlace_1 rfl hl (by decide) rfl (fun ls hln => ?_)
  replace hl := hln
  clear hln
  refine lv_iconst (v := 0) hx hb dX1_eggsAtFirstPlace_2 (by decide) ?_
  refine lv_istore_n (lv' := [(2, .int 0), (1, .int 0), (0, .ref (ad 38))]) hx hb dX1_eggsAtFirstPlace_3 rfl hl (by decide) rfl (fun ls hln => ?_)
  replace hl := hln
  clear hln
  exact L4 _ _ _ h _ _ hW _ (lv_sub hl [2, 1, 0] rfl)
set_option maxHeartbeats 4000000 in
set_option maxRecDepth 100000 in
theorem c_X1_keepIfFirst (l : Launch) (D : va_G) (cy : ClassId × ClassId) (ad : Nat → Nat) (A : Nat → Prop) (N : Nat) (σ : Hp) (σ' : Hp) (h : t_X1_keepIfFirst N σ = some σ') : Cv l yX1_keepIfFirst us_X1_keepIfFirst ({ frames := 1, cells := 0, slots := 0, locals := 22 } : Room) D cy 55 shX ad A [.ref (ad 38)] σ σ' := by
  unfold t_X1_keepIfFirst at h
  refine Met.ofW (cc := cX1_keepIfFirst) (maxL := 1) (ret := none) (by decide) rfl ?_
  intro p e s m args below meth c s₁ B hml hv
  obtain ⟨rfl, hP, hK, hD, hA, hN⟩ := hv
  have hx := B.exec
  have hb := B.bytes
  have hr := B.returns
  have hlocks := B.notSynchronized
  have hts : ∀ w ∈ wsU, w.before _ s = true := fun w h => atoms_spec (ws := us_X1_keepIfFirst) B.pre w (List.mem_cons_of_mem _ h)
  have hown : s.vm.findClass RX1 = some m.cls := findClass_of_methodNamed B.named
  have hC : Cx p m c cX1_keepIfFirst 1 s _ wsU RX1 D cy := ⟨⟨hx, hb, hml, hown, hts⟩, hK, hN⟩
  have hW : Wd D cy 55 shX ad A s.heap σ s.heap [] := ⟨hP, hD, va_S.rf, hA⟩
  have hl := lv_entry ([.ref (ad 38)]) (n := 1) (Nat.le_of_ble_eq_true rfl)
  rw [lg_entry_eq]
  generalize (lg_sl ([.ref (ad 38)]) ++ List.replicate (1 - (lg_sl ([.ref (ad 38)])).length) Slot.unset).toArray = ls at hl ⊢
  have hl : lv_has ls 1 [(0, .ref (ad 38))] := hl
  have J18 : ∀ (σ : Hp), t_X1_keepIfFirst_18 N  σ = some σ' → ∀ (H : Heap) (locs : List Loc), Wd D cy 55 shX ad A s.heap σ H locs → ∀ ls : Array Slot, lv_has ls 1 [(0, .ref (ad 38))] → Gv p l e us_X1_keepIfFirst ({ frames := 1, cells := 0, slots := 0, locals := 22 } : Room) s m [.ref (ad 38)] below meth c D cy 55 shX ad A σ' H locs (F0 m 18 ls []) := by
    intro  σ h H locs hW ls hl
    unfold t_X1_keepIfFirst_18 at h
    refine lv_aload_n hx hb dX1_keepIfFirst_18 rfl (lv_at hl 0 rfl) ?_
    refine lv_iconst (v := 1) hx hb dX1_keepIfFirst_19 (by decide) ?_
    refine r_put hC hW 1 (Nat.le_of_ble_eq_true rfl) rfl rfl rfl (by decide) inUX1 tyX1 tyX1_ok nmX1 (hts _ wd_59) rfl rfl ⟨rfl, rfl⟩ dX1_keepIfFirst_20 (fun σ1 eσ1 H locs hWn => ?_)
    replace h := bn eσ1 h
    replace hW := hWn
    clear hWn eσ1
    exact r_vretW hC hr hlocks h hW dX1_keepIfFirst_23
  refine lv_aload_n hx hb dX1_keepIfFirst_0 rfl (lv_at hl 0 rfl) ?_
  refine r_geti hC hW 1 (Nat.le_of_ble_eq_true rfl) rfl rfl rfl (by decide) inUX1 (hts _ wd_59) rfl dX1_keepIfFirst_1 ?_
  refine lv_if_ne (tgt := 18) hx hb dX1_keepIfFirst_4 (by decide) (fun cq => ?_) (fun cq => ?_)
  · replace h := tn cq h
    exact J18 _ h _ _ hW _ (lv_sub hl [0] rfl)
  · replace h := tp cq h
    refine lv_aload_n hx hb dX1_keepIfFirst_7 rfl (lv_at hl 0 rfl) ?_
    refine r_getr hC hW 2 (Nat.le_of_ble_eq_true rfl) rfl rfl rfl (by decide) inUX1 (hts _ wd_68) rfl dX1_keepIfFirst_8 ?_
    refine lv_aload_n hx hb dX1_keepIfFirst_11 rfl (lv_at hl 0 rfl) ?_
    refine r_getr hC hW 3 (Nat.le_of_ble_eq_true rfl) rfl rfl rfl (by decide) inUX1 (hts _ wd_74) rfl dX1_keepIfFirst_12 ?_
    replace h := bd h
    obtain ⟨σ2, hc, h⟩ := h
    refine r_callv hW (va_runSN (As := [.ref (ad 39), .ref (ad 40)]) (rest := []) hC.1 (c_X6_copyRow l D cy ad A N 39 7 ⟨Nat.le_of_ble_eq_true rfl, rfl⟩ 40 7 ⟨Nat.le_of_ble_eq_true rfl, rfl⟩ _ _ hc) ⟨va_cnB 2 hts (gdN wd_23) rfl rfl rfl (NL.at hC.2.2 nw_RX1_160 rfl) (hts _ wd_5) (by decide +kernel) ⟨Nat.le_of_ble_eq_true rfl, Nat.le_of_ble_eq_true rfl⟩, hts _ wd_24, trivial⟩ (r_preS hC hW) rfl rfl hl.1 rfl (lv_room (Nat.le_of_ble_eq_true rfl)) dX1_keepIfFirst_15 ⟨Nat.zero_le _, Nat.zero_le _⟩) (fun H locs hWn => ?_)
    replace hW := hWn
    clear hWn hc
    exact J18 _ h _ _ hW _ (lv_sub hl [0] rfl)
