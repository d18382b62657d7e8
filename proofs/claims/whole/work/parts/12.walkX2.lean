set_option maxHeartbeats 4000000 in
set_option maxRecDepth 100000 in
theorem c_X1_lay_step (l : Launch) (D : va_G) (cy : ClassId × ClassId) (ad : Nat → Nat) (A : Nat → Prop) (N : Nat) (kr : Int32 → Int32 → Int32 → Hp → Option (Int32 × Hp)) (d : Nat) (ihr : ∀ (p1 : Int32) (p2 : Int32) (p3 : Int32) (σ : Hp) (r : Int32) (σ' : Hp), kr p1 p2 p3 σ = some (r, σ') → Ci l yX1_lay us_X1_lay ({ frames := 2 + d, cells := 0, slots := 0, locals := 47 + d * 27 } : Room) D cy 55 shX ad A [.ref (ad 38), .int p1, .int p2, .int p3] σ r σ') (p1 : Int32) (p2 : Int32) (p3 : Int32) (σ : Hp) (r : Int32) (σ' : Hp) (h : t_X1_lay_F N kr p1 p2 p3 σ = some (r, σ')) : Ci l yX1_lay us_X1_lay ({ frames := 2 + (d + 1), cells := 0, slots := 0, locals := 47 + (d + 1) * 27 } : Room) D cy 55 shX ad A [.ref (ad 38), .int p1, .int p2, .int p3] σ r σ' := by
  unfold t_X1_lay_F at h
  refine Met.ofW (cc := cX1_lay) (maxL := 8) (ret := (some .int)) (by decide) rfl ?_
  intro p e s m args below meth c s₁ B hml hv
  obtain ⟨rfl, hP, hK, hD, hA, hN⟩ := hv
  have hx := B.exec
  have hb := B.bytes
  have hr := B.returns
  have hlocks := B.notSynchronized
  have hts : ∀ w ∈ wsU, w.before _ s = true := fun w h => atoms_spec (ws := us_X1_lay) B.pre w (List.mem_cons_of_mem _ h)
  have hown : s.vm.findClass RX1 = some m.cls := findClass_of_methodNamed B.named
  have hC : Cx p m c cX1_lay 8 s _ wsU RX1 D cy := ⟨⟨hx, hb, hml, hown, hts⟩, hK, hN⟩
  have hW : Wd D cy 55 shX ad A s.heap σ s.heap [] := ⟨hP, hD, va_S.rf, hA⟩
  have hl := lv_entry ([.ref (ad 38), .int p1, .int p2, .int p3]) (n := 8) (Nat.le_of_ble_eq_true rfl)
  rw [lg_entry_eq]
  generalize (lg_sl ([.ref (ad 38), .int p1, .int p2, .int p3]) ++ List.replicate (8 - (lg_sl ([.ref (ad 38), .int p1, .int p2, .int p3])).length) Slot.unset).toArray = ls at hl ⊢
  have hl : lv_has ls 8 [(0, .ref (ad 38)), (1, .int p1), (2, .int p2), (3, .int p3)] := hl
  have J14 : ∀ (σ : Hp), t_X1_lay_14 N kr  σ = some (r, σ') → ∀ (H : Heap) (locs : List Loc), Wd D cy 55 shX ad A s.heap σ H locs → ∀ ls : Array Slot, lv_has ls 8 [(0, .ref (ad 38))] → Gi p l e us_X1_lay ({ frames := 2 + (d + 1), cells := 0, slots := 0, locals := 47 + (d + 1) * 27 } : Room) s m [.ref (ad 38), .int p1, .int p2, .int p3] below meth c D cy 55 shX ad A r σ' H locs (F0 m 14 ls []) := by
    intro  σ h H locs hW ls hl
    unfold t_X1_lay_14 at h
    refine lv_aload_n hx hb dX1_lay_14 rfl (lv_at hl 0 rfl) ?_
    replace h := bd h
    obtain ⟨σ1, hc, h⟩ := h
    refine r_callv hW (va_runV (As := []) (rest := []) hC.1 (c_X1_keepIfFirst l D cy ad A N _ _ hc) (cwV 0 hts (gdV wd_76 wd_77 wd_78 wd_73 wd_75) rfl rfl rfl (by decide +kernel) ⟨by show _ ≤ _; simp only [headSpec]; omega, by show _ ≤ _; simp only [headSpec]; omega⟩) (r_preV hC hW (Nat.le_of_ble_eq_true rfl) rfl rfl) rfl rfl hl.1 rfl (lv_room (Nat.le_of_ble_eq_true rfl)) dX1_lay_15 ⟨Nat.zero_le _, Nat.zero_le _⟩) (fun H locs hWn => ?_)
    replace hW := hWn
    clear hWn hc
    refine lv_iconst (v := 1) hx hb dX1_lay_18 (by decide) ?_
    exact r_iretW hC hr hlocks h hW dX1_lay_19
  have L26 : ∀ (f : Nat) (v1 : Int32) (v2 : Int32) (v3 : Int32) (v4 : Int32) (v5 : Int32) (σ : Hp), t_X1_lay_26 N kr f v1 v2 v3 v4 v5 σ = some (r, σ') → ∀ (H : Heap) (locs : List Loc), Wd D cy 55 shX ad A s.heap σ H locs → ∀ ls : Array Slot, lv_has ls 8 [(0, .ref (ad 38)), (1, .int v1), (2, .int v2), (3, .int v3), (4, .int v4), (5, .int v5)] → Gi p l e us_X1_lay ({ frames := 2 + (d + 1), cells := 0, slots := 0, locals := 47 + (d + 1) * 27 } : Room) s m [.ref (ad 38), .int p1, .int p2, .int p3] below meth c D cy 55 shX ad A r σ' H locs (F0 m 26 ls []) := by
    intro f
    unfold t_X1_lay_26
    refine loopG_ind (fun (T : Int32 → Int32 → Int32 → Int32 → Int32 → Hp → Option (Int32 × Hp)) => ∀ (v1 : Int32) (v2 : Int32) (v3 : Int32) (v4 : Int32) (v5 : Int32) (σ : Hp), T v1 v2 v3 v4 v5 σ = some (r, σ') → ∀ (H : Heap) (locs : List Loc), Wd D cy 55 shX ad A s.heap σ H locs → ∀ ls : Array Slot, lv_has ls 8 [(0, .ref (ad 38)), (1, .int v1), (2, .int v2), (3, .int v3), (4, .int v4), (5, .int v5)] → Gi p l e us_X1_lay ({ frames := 2 + (d + 1), cells := 0, slots := 0, locals := 47 + (d + 1) * 27 } : Room) s m [.ref (ad 38), .int p1, .int p2, .int p3] below meth c D cy 55 shX ad A r σ' H locs (F0 m 26 ls [])) ?_ ?_ f
    · intro v1 v2 v3 v4 v5 σ h; exact absurd h (by simp)
    · intro k26 ih26
      have J137 : ∀ (v1 : Int32) (v2 : Int32) (v3 : Int32) (v4 : Int32) (v5 : Int32) (σ : Hp), t_X1_lay_137 N kr k26 v1 v2 v3 v4 v5 σ = some (r, σ') → ∀ (H : Heap) (locs : List Loc), Wd D cy 55 shX ad A s.heap σ H locs → ∀ ls : Array Slot, lv_has ls 8 [(0, .ref (ad 38)), (1, .int v1), (2, .int v2), (3, .int v3), (4, .int v4), (5, .int v5)] → Gi p l e us_X1_lay ({ frames := 2 + (d + 1), cells := 0, slots := 0, locals := 47 + (d + 1) * 27 } : Room) s m [.ref (ad 38), .int p1, .int p2, .int p3] below meth c D cy 55 shX ad A r σ' H locs (F0 m 137 ls []) := by
        intro v1 v2 v3 v4 v5 σ h H locs hW ls hl
        unfold t_X1_lay_137 at h
        replace h := bx h
        obtain ⟨x2, ex2, h⟩ := h
        refine lv_iinc (v := x2) (lv' := [(5, .int x2), (0, .ref (ad 38)), (1, .int v1), (2, .int v2), (3, .int v3), (4, .int v4)]) hx hb dX1_lay_137 hl (k := 5) rfl (by rw [ex2]; rfl) (by decide) rfl (fun ls hln => ?_)
        replace hl := hln
        clear hln ex2
        refine lv_goto (tgt := 26) hx hb dX1_lay_140 (by decide) ?_
        exact ih26 _ _ _ _ _ _ h _ _ hW _ (lv_sub hl [1, 2, 3, 4, 5, 0] rfl)
      have J130 : ∀ (v1 : Int32) (v2 : Int32) (v3 : Int32) (v4 : Int32) (v5 : Int32) (v7 : Int32) (σ : Hp), t_X1_lay_130 N kr k26 v1 v2 v3 v4 v5 v7 σ = some (r, σ') → ∀ (H : Heap) (locs : List Loc), Wd D cy 55 shX ad A s.heap σ H locs → ∀ ls : Array Slot, lv_has ls 8 [(0, .ref (ad 38)), (1, .int v1), (2, .int v2), (3, .int v3), (4, .int v4), (5, .int v5), (7, .int v7)] → Gi p l e us_X1_lay ({ frames := 2 + (d + 1), cells := 0, slots := 0, locals := 47 + (d + 1) * 27 } : Room) s m [.ref (ad 38), .int p1, .int p2, .int p3] below meth c D cy 55 shX ad A r σ' H locs (F0 m 130 ls []) := by
        intro v1 v2 v3 v4 v5 v7 σ h H locs hW ls hl
        unfold t_X1_lay_130 at h
        refine lv_iload hx hb dX1_lay_130 (lv_at hl 4 rfl) ?_
        refine lv_iload hx hb dX1_lay_132 (lv_at hl 6 rfl) ?_
        refine lv_iadd hx hb dX1_lay_134 ?_
        replace h := bx h
        obtain ⟨x3, ex3, h⟩ := h
        refine tope ex3 ?_
        clear ex3
        refine lv_istore (lv' := [(4, .int x3), (0, .ref (ad 38)), (1, .int v1), (2, .int v2), (3, .int v3), (5, .int v5), (7, .int v7)]) hx hb dX1_lay_135 hl (by decide) rfl (fun ls hln => ?_)
        replace hl := hln
        clear hln
        exact J137 _ _ _ _ _ _ h _ _ hW _ (lv_sub hl [1, 2, 3, 4, 0, 5] rfl)
      intro v1 v2 v3 v4 v5 σ h H locs hW ls hl
      refine lv_iload hx hb dX1_lay_26 (lv_at hl 5 rfl) ?_
      refine lv_aload_n hx hb dX1_lay_28 rfl (lv_at hl 0 rfl) ?_
      refine r_geti hC hW 0 (Nat.le_of_ble_eq_true rfl) rfl rfl rfl (by decide) inUX1 (hts _ wd_58) rfl dX1_lay_29 ?_
      refine lv_icmp_ge (tgt := 143) hx hb dX1_lay_32 (by decide) (fun cq => ?_) (fun cq => ?_)
      · replace h := tp cq h
        refine lv_iload hx hb dX1_lay_143 (lv_at hl 4 rfl) ?_
        exact r_iretW hC hr hlocks h hW dX1_lay_145
      · replace h := tn cq h
        refine lv_iload_n hx hb dX1_lay_35 rfl (lv_at hl 2 rfl) ?_
        refine lv_iload hx hb dX1_lay_36 (lv_at hl 5 rfl) ?_
        replace h := bd h
        obtain ⟨r4, hc, h⟩ := h
        refine r_calli hW (va_runSN (As := [.int v2, .int v5]) (rest := []) hC.1 (c_X6_hasBit l D cy ad A _ _ _ _ hc) ⟨va_cnB 2 hts (gdN wd_31) rfl rfl rfl (NL.at hC.2.2 nw_RX1_145 rfl) (hts _ wd_5) (by decide +kernel) ⟨by show _ ≤ _; simp only [headSpec]; omega, by show _ ≤ _; simp only [headSpec]; omega⟩, hts _ wd_32, trivial⟩ (r_preS hC hW) rfl rfl hl.1 rfl (lv_room (Nat.le_of_ble_eq_true rfl)) dX1_lay_38 ⟨Nat.zero_le _, Nat.zero_le _⟩) (fun H locs hWn => ?_)
        replace hW := hWn
        clear hWn hc
        refine lv_if_ne (tgt := 137) hx hb dX1_lay_41 (by decide) (fun cq => ?_) (fun cq => ?_)
        · replace h := tn cq h
          exact J137 _ _ _ _ _ _ h _ _ hW _ (lv_sub hl [0, 1, 2, 3, 4, 5] rfl)
        · replace h := tp cq h
          refine lv_aload_n hx hb dX1_lay_44 rfl (lv_at hl 0 rfl) ?_
          refine lv_iload hx hb dX1_lay_45 (lv_at hl 5 rfl) ?_
          refine lv_iload_n hx hb dX1_lay_47 rfl (lv_at hl 1 rfl) ?_
          refine lv_iload_n hx hb dX1_lay_48 rfl (lv_at hl 2 rfl) ?_
          replace h := bd h
          obtain ⟨r5, hc, h⟩ := h
          refine r_calli hW (va_runV (As := [.int v5, .int v1, .int v2]) (rest := []) hC.1 (c_X1_canBeLaid l D cy ad A _ _ _ _ _ hc) (cwV 3 hts (gdV wd_80 wd_81 wd_82 wd_73 wd_79) rfl rfl rfl (by decide +kernel) ⟨by show _ ≤ _; simp only [headSpec]; omega, by show _ ≤ _; simp only [headSpec]; omega⟩) (r_preV hC hW (Nat.le_of_ble_eq_true rfl) rfl rfl) rfl rfl hl.1 rfl (lv_room (Nat.le_of_ble_eq_true rfl)) dX1_lay_49 ⟨Nat.zero_le _, Nat.zero_le _⟩) (fun H locs hWn => ?_)
          replace hW := hWn
          clear hWn hc
          refine lv_if_ne (tgt := 58) hx hb dX1_lay_52 (by decide) (fun cq => ?_) (fun cq => ?_)
          · replace h := tn cq h
            refine lv_iload_n hx hb dX1_lay_58 rfl (lv_at hl 3 rfl) ?_
            refine lv_aload_n hx hb dX1_lay_59 rfl (lv_at hl 0 rfl) ?_
            refine r_getr hC hW 9 (Nat.le_of_ble_eq_true rfl) rfl rfl rfl (by decide) inUX1 (hts _ wd_65) rfl dX1_lay_60 ?_
            refine lv_iload hx hb dX1_lay_63 (lv_at hl 5 rfl) ?_
            replace h := bd h
            obtain ⟨r6, hc, h⟩ := h
            refine r_calli hW (va_runSN (As := [.ref (ad 46), .int v5]) (rest := [.int v3]) hC.1 (c_X6_at l D cy ad A 46 7 ⟨Nat.le_of_ble_eq_true rfl, rfl⟩ _ _ _ hc) ⟨va_cnB 2 hts (gdN wd_4) rfl rfl rfl (NL.at hC.2.2 nw_RX1_81 rfl) (hts _ wd_5) (by decide +kernel) ⟨by show _ ≤ _; simp only [headSpec]; omega, by show _ ≤ _; simp only [headSpec]; omega⟩, hts _ wd_6, trivial⟩ (r_preS hC hW) rfl rfl hl.1 rfl (lv_room (Nat.le_of_ble_eq_true rfl)) dX1_lay_65 ⟨Nat.zero_le _, Nat.zero_le _⟩) (fun H locs hWn => ?_)
            replace hW := hWn
            clear hWn hc
            refine va_mmax hx hb (hml.trans hl.1.symm) hown (hts _ wd_57) (hts _ wd_34) (hts _ wd_35) (hts _ wd_36) (by show _ ≤ _; simp only [headSpec]; omega) (by show _ ≤ _; simp [headSpec]; omega) (Nat.le_refl _) (Nat.le_refl _) dX1_lay_68 ?_
            replace h := bx h
            obtain ⟨x7, ex7, h⟩ := h
            refine tope ex7 ?_
            clear ex7
            refine lv_istore (lv' := [(6, .int x7), (0, .ref (ad 38)), (1, .int v1), (2, .int v2), (3, .int v3), (4, .int v4), (5, .int v5)]) hx hb dX1_lay_71 hl (by decide) rfl (fun ls hln => ?_)
            replace hl := hln
            clear hln
            refine lv_aload_n hx hb dX1_lay_73 rfl (lv_at hl 1 rfl) ?_
            refine lv_iload hx hb dX1_lay_74 (lv_at hl 6 rfl) ?_
            refine lv_iload hx hb dX1_lay_76 (lv_at hl 0 rfl) ?_
            replace h := bd h
            obtain ⟨r8, hc, h⟩ := h
            refine r_calli hW (va_runV (As := [.int v5, .int x7]) (rest := []) hC.1 (c_X1_canHatchIn l D cy ad A _ _ _ _ hc) (cwV 2 hts (gdV wd_84 wd_85 wd_86 wd_73 wd_83) rfl rfl rfl (by decide +kernel) ⟨by show _ ≤ _; simp only [headSpec]; omega, by show _ ≤ _; simp only [headSpec]; omega⟩) (r_preV hC hW (Nat.le_of_ble_eq_true rfl) rfl rfl) rfl rfl hl.1 rfl (lv_room (Nat.le_of_ble_eq_true rfl)) dX1_lay_78 ⟨Nat.zero_le _, Nat.zero_le _⟩) (fun H locs hWn => ?_)
            replace hW := hWn
            clear hWn hc
            refine lv_if_ne (tgt := 87) hx hb dX1_lay_81 (by decide) (fun cq => ?_) (fun cq => ?_)
            · replace h := tn cq h
              refine lv_aload_n hx hb dX1_lay_87 rfl (lv_at hl 1 rfl) ?_
              refine r_getr hC hW 2 (Nat.le_of_ble_eq_true rfl) rfl rfl rfl (by decide) inUX1 (hts _ wd_68) rfl dX1_lay_88 ?_
              refine lv_iload_n hx hb dX1_lay_91 rfl (lv_at hl 2 rfl) ?_
              refine lv_iload hx hb dX1_lay_92 (lv_at hl 6 rfl) ?_
              replace h := bd h
              obtain ⟨σ9, hc, h⟩ := h
              refine r_callv hW (va_runSN (As := [.ref (ad 39), .int v1, .int v5]) (rest := []) hC.1 (c_X6_put l D cy ad A 39 7 ⟨Nat.le_of_ble_eq_true rfl, rfl⟩ _ _ _ _ hc) ⟨va_cnB 3 hts (gdN wd_37) rfl rfl rfl (NL.at hC.2.2 nw_RX1_95 rfl) (hts _ wd_5) (by decide +kernel) ⟨by show _ ≤ _; simp only [headSpec]; omega, by show _ ≤ _; simp only [headSpec]; omega⟩, hts _ wd_38, trivial⟩ (r_preS hC hW) rfl rfl hl.1 rfl (lv_room (Nat.le_of_ble_eq_true rfl)) dX1_lay_94 ⟨Nat.zero_le _, Nat.zero_le _⟩) (fun H locs hWn => ?_)
              replace hW := hWn
              clear hWn hc
              refine lv_aload_n hx hb dX1_lay_97 rfl (lv_at hl 1 rfl) ?_
              refine lv_iload_n hx hb dX1_lay_98 rfl (lv_at hl 2 rfl) ?_
              refine lv_iconst (v := 1) hx hb dX1_lay_99 (by decide) ?_
              refine lv_iadd hx hb dX1_lay_100 ?_
              refine lv_iload_n hx hb dX1_lay_101 rfl (lv_at hl 3 rfl) ?_
              refine lv_iload hx hb dX1_lay_102 (lv_at hl 6 rfl) ?_
              replace h := bd h
              obtain ⟨r10, hc, h⟩ := h
              refine r_calli hW (va_runSN (As := [.int v5]) (rest := [.int v2, .int (v1 + 1), .ref (ad 38)]) hC.1 (c_X6_bit l D cy ad A _ _ _ hc) ⟨va_cnB 1 hts (gdN wd_25) rfl rfl rfl (NL.at hC.2.2 nw_RX1_69 rfl) (hts _ wd_5) (by decide +kernel) ⟨by show _ ≤ _; simp only [headSpec]; omega, by show _ ≤ _; simp only [headSpec]; omega⟩, hts _ wd_26, trivial⟩ (r_preS hC hW) rfl rfl hl.1 rfl (lv_room (Nat.le_of_ble_eq_true rfl)) dX1_lay_104 ⟨Nat.zero_le _, Nat.zero_le _⟩) (fun H locs hWn => ?_)
              replace hW := hWn
              clear hWn hc
              refine lv_ior hx hb dX1_lay_107 ?_
              refine lv_iload hx hb dX1_lay_108 (lv_at hl 0 rfl) ?_
              replace h := ob h
              obtain ⟨r11, σ12, hc, h⟩ := h
              refine r_calli hW (va_runS (As := [.ref (ad 38), .int (v1 + 1), .int (v2 ||| r10), .int x7]) (rest := []) hC.1 (ihr _ _ _ _ _ _ hc) (va_cwS 4 hts (gdS wd_88 wd_89 wd_73 wd_87) rfl rfl rfl (by decide +kernel) ⟨by show _ ≤ _; simp only [headSpec]; omega, by show _ ≤ _; simp only [headSpec]; omega⟩) (r_preS hC hW) rfl rfl hl.1 rfl (lv_room (Nat.le_of_ble_eq_true rfl)) dX1_lay_110 ⟨Nat.zero_le _, Nat.zero_le _⟩) (fun H locs hWn => ?_)
              replace hW := hWn
              clear hWn hc
              refine lv_istore (lv' := [(7, .int r11), (6, .int x7), (0, .ref (ad 38)), (1, .int v1), (2, .int v2), (3, .int v3), (4, .int v4), (5, .int v5)]) hx hb dX1_lay_113 hl (by decide) rfl (fun ls hln => ?_)
              replace hl := hln
              clear hln
              refine lv_iload hx hb dX1_lay_115 (lv_at hl 0 rfl) ?_
              refine lv_if_le (tgt := 130) hx hb dX1_lay_117 (by decide) (fun cq => ?_) (fun cq => ?_)
              · replace h := tp cq h
                exact J130 _ _ _ _ _ _ _ h _ _ hW _ (lv_sub hl [2, 3, 4, 5, 6, 7, 0] rfl)
              · replace h := tn cq h
                refine lv_aload_n hx hb dX1_lay_120 rfl (lv_at hl 2 rfl) ?_
                refine lv_iload hx hb dX1_lay_121 (lv_at hl 7 rfl) ?_
                refine lv_iload_n hx hb dX1_lay_123 rfl (lv_at hl 3 rfl) ?_
                refine lv_iload_n hx hb dX1_lay_124 rfl (lv_at hl 4 rfl) ?_
                refine lv_iload hx hb dX1_lay_125 (lv_at hl 0 rfl) ?_
                replace h := bd h
                obtain ⟨σ13, hc, h⟩ := h
                refine r_callv hW (va_runV (As := [.int v5, .int v1, .int v2, .int r11]) (rest := []) hC.1 (c_X1_addOrders l D cy ad A _ _ _ _ _ _ hc) (cwV 4 hts (gdV wd_91 wd_92 wd_93 wd_73 wd_90) rfl rfl rfl (by decide +kernel) ⟨by show _ ≤ _; simp only [headSpec]; omega, by show _ ≤ _; simp only [headSpec]; omega⟩) (r_preV hC hW (Nat.le_of_ble_eq_true rfl) rfl rfl) rfl rfl hl.1 rfl (lv_room (Nat.le_of_ble_eq_true rfl)) dX1_lay_127 ⟨Nat.zero_le _, Nat.zero_le _⟩) (fun H locs hWn => ?_)
                replace hW := hWn
                clear hWn hc
                exact J130 _ _ _ _ _ _ _ h _ _ hW _ (lv_sub hl [2, 3, 4, 5, 6, 7, 0] rfl)
            · replace h := tp cq h
              refine lv_goto (tgt := 137) hx hb dX1_lay_84 (by decide) ?_
              exact J137 _ _ _ _ _ _ h _ _ hW _ (lv_sub hl [1, 2, 3, 4, 5, 6] rfl)
          · replace h := tp cq h
            refine lv_goto (tgt := 137) hx hb dX1_lay_55 (by decide) ?_
            exact J137 _ _ _ _ _ _ h _ _ hW _ (lv_sub hl [0, 1, 2, 3, 4, 5] rfl)
  refine lv_iload_n hx hb dX1_lay_0 rfl (lv_at hl 1 rfl) ?_
  refine lv_aload_n hx hb dX1_lay_1 rfl (lv_at hl 0 rfl) ?_
  refine r_geti hC hW 0 (Nat.le_of_ble_eq_true rfl) rfl rfl rfl (by decide) inUX1 (hts _ wd_58) rfl dX1_lay_2 ?_
  refine lv_icmp_ge (tgt := 14) hx hb dX1_lay_5 (by decide) (fun cq => ?_) (fun cq => ?_)
  · replace h := tp cq h
    exact J14 _ h _ _ hW _ (lv_sub hl [0] rfl)
  · replace h := tn cq h
    refine lv_iload_n hx hb dX1_lay_8 rfl (lv_at hl 1 rfl) ?_
    refine lv_bipush (v := 7) hx hb dX1_lay_9 (by decide) ?_
    refine lv_icmp_lt (tgt := 20) hx hb dX1_lay_11 (by decide) (fun cq => ?_) (fun cq => ?_)
    · replace h := tp cq h
      refine lv_iconst (v := 0) hx hb dX1_lay_20 (by decide) ?_
      refine lv_istore (lv' := [(4, .int 0), (0, .ref (ad 38)), (1, .int p1), (2, .int p2), (3, .int p3)]) hx hb dX1_lay_21 hl (by decide) rfl (fun ls hln => ?_)
      replace hl := hln
      clear hln
      refine lv_iconst (v := 0) hx hb dX1_lay_23 (by decide) ?_
      refine lv_istore (lv' := [(5, .int 0), (4, .int 0), (0, .ref (ad 38)), (1, .int p1), (2, .int p2), (3, .int p3)]) hx hb dX1_lay_24 hl (by decide) rfl (fun ls hln => ?_)
      replace hl := hln
      clear hln
      exact L26 _ _ _ _ _ _ _ h _ _ hW _ (lv_sub hl [2, 3, 4, 5, 1, 0] rfl)
    · replace h := tn cq h
      exact J14 _ h _ _ hW _ (lv_sub hl [0] rfl)
theorem c_X1_lay (l : Launch) (D : va_G) (cy : ClassId × ClassId) (ad : Nat → Nat) (A : Nat → Prop) (N : Nat) : ∀ (d : Nat) (p1 : Int32) (p2 : Int32) (p3 : Int32) (σ : Hp) (r : Int32) (σ' : Hp), t_X1_lay N d p1 p2 p3 σ = some (r, σ') → Ci l yX1_lay us_X1_lay ({ frames := 2 + d, cells := 0, slots := 0, locals := 47 + d * 27 } : Room) D cy 55 shX ad A [.ref (ad 38), .int p1, .int p2, .int p3] σ r σ' := by
  intro d
  induction d with
  | zero => intro p1 p2 p3 σ r σ' h; exact absurd h (by simp [t_X1_lay, loopG])
  | succ d ih => intro p1 p2 p3 σ r σ' h; exact c_X1_lay_step l D cy ad A N (t_X1_lay N d) d ih p1 p2 p3 σ r σ' h
set_option maxHeartbeats 4000000 in
set_option maxRecDepth 100000 in
theorem c_X1_mostLeft (l : Launch) (D : va_G) (cy : ClassId × ClassId) (ad : Nat → Nat) (A : Nat → Prop) (N : Nat) (p0 : Int32) (σ : Hp) (r : Int32) (h : t_X1_mostLeft N p0 σ = some r) : Ci l yX1_mostLeft us_X1_mostLeft ({ frames := 2, cells := 0, slots := 0, locals := 43 } : Room) D cy 55 shX ad A [.ref (ad 38), .int p0] σ r σ := by
  unfold t_X1_mostLeft at h
  refine Met.ofW (cc := cX1_mostLeft) (maxL := 4) (ret := (some .int)) (by decide) rfl ?_
  intro p e s m args below meth c s₁ B hml hv
  obtain ⟨rfl, hP, hK, hD, hA, hN⟩ := hv
  have hx := B.exec
  have hb := B.bytes
  have hr := B.returns
  have hlocks := B.notSynchronized
  have hts : ∀ w ∈ wsU, w.before _ s = true := fun w h => atoms_spec (ws := us_X1_mostLeft) B.pre w (List.mem_cons_of_mem _ h)
  have hown : s.vm.findClass RX1 = some m.cls := findClass_of_methodNamed B.named
  have hC : Cx p m c cX1_mostLeft 4 s _ wsU RX1 D cy := ⟨⟨hx, hb, hml, hown, hts⟩, hK, hN⟩
  have hW : Wd D cy 55 shX ad A s.heap σ s.heap [] := ⟨hP, hD, va_S.rf, hA⟩
  have hl := lv_entry ([.ref (ad 38), .int p0]) (n := 4) (Nat.le_of_ble_eq_true rfl)
  rw [lg_entry_eq]
  generalize (lg_sl ([.ref (ad 38), .int p0]) ++ List.replicate (4 - (lg_sl ([.ref (ad 38), .int p0])).length) Slot.unset).toArray = ls at hl ⊢
  have hl : lv_has ls 4 [(0, .ref (ad 38)), (1, .int p0)] := hl
  have L4 : ∀ (f : Nat) (v1 : Int32) (v2 : Int32) (v3 : Int32), t_X1_mostLeft_4 N f v1 v2 v3 σ = some r → ∀ (H : Heap) (locs : List Loc), Wd D cy 55 shX ad A s.heap σ H locs → ∀ ls : Array Slot, lv_has ls 4 [(0, .ref (ad 38)), (1, .int v1), (2, .int v2), (3, .int v3)] → Gi p l e us_X1_mostLeft ({ frames := 2, cells := 0, slots := 0, locals := 43 } : Room) s m [.ref (ad 38), .int p0] below meth c D cy 55 shX ad A r σ H locs (F0 m 4 ls []) := by
    intro f
    unfold t_X1_mostLeft_4
    refine loopG_ind (fun (T : Int32 → Int32 → Int32 → Hp → Option Int32) => ∀ (v1 : Int32) (v2 : Int32) (v3 : Int32), T v1 v2 v3 σ = some r → ∀ (H : Heap) (locs : List Loc), Wd D cy 55 shX ad A s.heap σ H locs → ∀ ls : Array Slot, lv_has ls 4 [(0, .ref (ad 38)), (1, .int v1), (2, .int v2), (3, .int v3)] → Gi p l e us_X1_mostLeft ({ frames := 2, cells := 0, slots := 0, locals := 43 } : Room) s m [.ref (ad 38), .int p0] below meth c D cy 55 shX ad A r σ H locs (F0 m 4 ls [])) ?_ ?_ f
    · intro v1 v2 v3 h; exact absurd h (by simp)
    · intro k4 ih4
      intro v1 v2 v3 h H locs hW ls hl
      refine lv_iload_n hx hb dX1_mostLeft_4 rfl (lv_at hl 3 rfl) ?_
      refine lv_aload_n hx hb dX1_mostLeft_5 rfl (lv_at hl 0 rfl) ?_
      refine r_geti hC hW 0 (Nat.le_of_ble_eq_true rfl) rfl rfl rfl (by decide) inUX1 (hts _ wd_58) rfl dX1_mostLeft_6 ?_
      refine lv_icmp_ge (tgt := 29) hx hb dX1_mostLeft_9 (by decide) (fun cq => ?_) (fun cq => ?_)
      · replace h := tp cq h
        refine lv_iload_n hx hb dX1_mostLeft_29 rfl (lv_at hl 2 rfl) ?_
        exact r_iretP hC hr hlocks h hW dX1_mostLeft_30
      · replace h := tn cq h
        refine lv_iload_n hx hb dX1_mostLeft_12 rfl (lv_at hl 2 rfl) ?_
        refine lv_aload_n hx hb dX1_mostLeft_13 rfl (lv_at hl 0 rfl) ?_
        refine lv_iload_n hx hb dX1_mostLeft_14 rfl (lv_at hl 1 rfl) ?_
        refine lv_iload_n hx hb dX1_mostLeft_15 rfl (lv_at hl 3 rfl) ?_
        replace h := bd h
        obtain ⟨r1, hc, h⟩ := h
        refine r_calli hW (va_runV (As := [.int v1, .int v3]) (rest := [.int v2]) hC.1 (c_X1_ordersWith l D cy ad A _ _ _ _ hc) (cwV 2 hts (gdV wd_70 wd_71 wd_72 wd_73 wd_69) rfl rfl rfl (by decide +kernel) ⟨Nat.le_of_ble_eq_true rfl, Nat.le_of_ble_eq_true rfl⟩) (r_preV hC hW (Nat.le_of_ble_eq_true rfl) rfl rfl) rfl rfl hl.1 rfl (lv_room (Nat.le_of_ble_eq_true rfl)) dX1_mostLeft_16 ⟨Nat.zero_le _, Nat.zero_le _⟩) (fun H locs hWn => ?_)
        replace hW := hWn
        clear hWn hc
        refine va_mmax hx hb (hml.trans hl.1.symm) hown (hts _ wd_57) (hts _ wd_34) (hts _ wd_35) (hts _ wd_36) (Nat.le_of_ble_eq_true rfl) (Nat.le_of_ble_eq_true rfl) (Nat.le_refl _) (Nat.le_refl _) dX1_mostLeft_19 ?_
        replace h := bx h
        obtain ⟨x2, ex2, h⟩ := h
        refine tope ex2 ?_
        clear ex2
        refine lv_istore_n (lv' := [(2, .int x2), (0, .ref (ad 38)), (1, .int v1), (3, .int v3)]) hx hb dX1_mostLeft_22 rfl hl (by decide) rfl (fun ls hln => ?_)
        replace hl := hln
        clear hln
        replace h := bx h
        obtain ⟨x3, ex3, h⟩ := h
        refine lv_iinc (v := x3) (lv' := [(3, .int x3), (2, .int x2), (0, .ref (ad 38)), (1, .int v1)]) hx hb dX1_mostLeft_23 hl (k := 3) rfl (by rw [ex3]; rfl) (by decide) rfl (fun ls hln => ?_)
        replace hl := hln
        clear hln ex3
        refine lv_goto (tgt := 4) hx hb dX1_mostLeft_26 (by decide) ?_
        exact ih4 _ _ _ h _ _ hW _ (lv_sub hl [2, 3, 1, 0] rfl)
  refine lv_iconst (v := 0) hx hb dX1_mostLeft_0 (by decide) ?_
  refine lv_istore_n (lv' := [(2, .int 0), (0, .ref (ad 38)), (1, .int p0)]) hx hb dX1_mostLeft_1 rfl hl (by decide) rfl (fun ls hln => ?_)
  replace hl := hln
  clear hln
  refine lv_iconst (v := 0) hx hb dX1_mostLeft_2 (by decide) ?_
  refine lv_istore_n (lv' := [(3, .int 0), (2, .int 0), (0, .ref (ad 38)), (1, .int p0)]) hx hb dX1_mostLeft_3 rfl hl (by decide) rfl (fun ls hln => ?_)
  replace hl := hln
  clear hln
  exact L4 _ _ _ _ h _ _ hW _ (lv_sub hl [2, 3, 1, 0] rfl)
set_option maxHeartbeats 4000000 in
set_option maxRecDepth 100000 in
theorem c_X1_noteWarm (l : Launch) (D : va_G) (cy : ClassId × ClassId) (ad : Nat → Nat) (A : Nat → Prop) (N : Nat) (p0 : Int32) (σ : Hp) (σ' : Hp) (h : t_X1_noteWarm N p0 σ = some σ') : Cv l yX1_noteWarm us_X1_noteWarm ({ frames := 2, cells := 0, slots := 0, locals := 42 } : Room) D cy 55 shX ad A [.ref (ad 38), .int p0] σ σ' := by
  unfold t_X1_noteWarm at h
  refine Met.ofW (cc := cX1_noteWarm) (maxL := 3) (ret := none) (by decide) rfl ?_
  intro p e s m args below meth c s₁ B hml hv
  obtain ⟨rfl, hP, hK, hD, hA, hN⟩ := hv
  have hx := B.exec
  have hb := B.bytes
  have hr := B.returns
  have hlocks := B.notSynchronized
  have hts : ∀ w ∈ wsU, w.before _ s = true := fun w h => atoms_spec (ws := us_X1_noteWarm) B.pre w (List.mem_cons_of_mem _ h)
  have hown : s.vm.findClass RX1 = some m.cls := findClass_of_methodNamed B.named
  have hC : Cx p m c cX1_noteWarm 3 s _ wsU RX1 D cy := ⟨⟨hx, hb, hml, hown, hts⟩, hK, hN⟩
  have hW : Wd D cy 55 shX ad A s.heap σ s.heap [] := ⟨hP, hD, va_S.rf, hA⟩
  have hl := lv_entry ([.ref (ad 38), .int p0]) (n := 3) (Nat.le_of_ble_eq_true rfl)
  rw [lg_entry_eq]
  generalize (lg_sl ([.ref (ad 38), .int p0]) ++ List.replicate (3 - (lg_sl ([.ref (ad 38), .int p0])).length) Slot.unset).toArray = ls at hl ⊢
  have hl : lv_has ls 3 [(0, .ref (ad 38)), (1, .int p0)] := hl
  have L2 : ∀ (f : Nat) (v1 : Int32) (v2 : Int32) (σ : Hp), t_X1_noteWarm_2 N f v1 v2 σ = some σ' → ∀ (H : Heap) (locs : List Loc), Wd D cy 55 shX ad A s.heap σ H locs → ∀ ls : Array Slot, lv_has ls 3 [(0, .ref (ad 38)), (1, .int v1), (2, .int v2)] → Gv p l e us_X1_noteWarm ({ frames := 2, cells := 0, slots := 0, locals := 42 } : Room) s m [.ref (ad 38), .int p0] below meth c D cy 55 shX ad A σ' H locs (F0 m 2 ls []) := by
    intro f
    unfold t_X1_noteWarm_2
    refine loopG_ind (fun (T : Int32 → Int32 → Hp → Option Hp) => ∀ (v1 : Int32) (v2 : Int32) (σ : Hp), T v1 v2 σ = some σ' → ∀ (H : Heap) (locs : List Loc), Wd D cy 55 shX ad A s.heap σ H locs → ∀ ls : Array Slot, lv_has ls 3 [(0, .ref (ad 38)), (1, .int v1), (2, .int v2)] → Gv p l e us_X1_noteWarm ({ frames := 2, cells := 0, slots := 0, locals := 42 } : Room) s m [.ref (ad 38), .int p0] below meth c D cy 55 shX ad A σ' H locs (F0 m 2 ls [])) ?_ ?_ f
    · intro v1 v2 σ h; exact absurd h (by simp)
    · intro k2 ih2
      have J44 : ∀ (v1 : Int32) (v2 : Int32) (σ : Hp), t_X1_noteWarm_44 N k2 v1 v2 σ = some σ' → ∀ (H : Heap) (locs : List Loc), Wd D cy 55 shX ad A s.heap σ H locs → ∀ ls : Array Slot, lv_has ls 3 [(0, .ref (ad 38)), (1, .int v1), (2, .int v2)] → Gv p l e us_X1_noteWarm ({ frames := 2, cells := 0, slots := 0, locals := 42 } : Room) s m [.ref (ad 38), .int p0] below meth c D cy 55 shX ad A σ' H locs (F0 m 44 ls []) := by
        intro v1 v2 σ h H locs hW ls hl
        unfold t_X1_noteWarm_44 at h
        replace h := bx h
        obtain ⟨x1, ex1, h⟩ := h
        refine lv_iinc (v := x1) (lv' := [(2, .int x1), (0, .ref (ad 38)), (1, .int v1)]) hx hb dX1_noteWarm_44 hl (k := 2) rfl (by rw [ex1]; rfl) (by decide) rfl (fun ls hln => ?_)
        replace hl := hln
        clear hln ex1
        refine lv_goto (tgt := 2) hx hb dX1_noteWarm_47 (by decide) ?_
        exact ih2 _ _ _ h _ _ hW _ (lv_sub hl [1, 2, 0] rfl)
      intro v1 v2 σ h H locs hW ls hl
      refine lv_iload_n hx hb dX1_noteWarm_2 rfl (lv_at hl 2 rfl) ?_
      refine lv_aload_n hx hb dX1_noteWarm_3 rfl (lv_at hl 0 rfl) ?_
      refine r_geti hC hW 0 (Nat.le_of_ble_eq_true rfl) rfl rfl rfl (by decide) inUX1 (hts _ wd_58) rfl dX1_noteWarm_4 ?_
      refine lv_icmp_ge (tgt := 50) hx hb dX1_noteWarm_7 (by decide) (fun cq => ?_) (fun cq => ?_)
      · replace h := tp cq h
        exact r_vretW hC hr hlocks h hW dX1_noteWarm_50
      · replace h := tn cq h
        refine lv_aload_n hx hb dX1_noteWarm_10 rfl (lv_at hl 0 rfl) ?_
        refine r_getr hC hW 9 (Nat.le_of_ble_eq_true rfl) rfl rfl rfl (by decide) inUX1 (hts _ wd_65) rfl dX1_noteWarm_11 ?_
        refine lv_iload_n hx hb dX1_noteWarm_14 rfl (lv_at hl 2 rfl) ?_
        replace h := bd h
        obtain ⟨r2, hc, h⟩ := h
        refine r_calli hW (va_runSN (As := [.ref (ad 46), .int v2]) (rest := []) hC.1 (c_X6_at l D cy ad A 46 7 ⟨Nat.le_of_ble_eq_true rfl, rfl⟩ _ _ _ hc) ⟨va_cnB 2 hts (gdN wd_4) rfl rfl rfl (NL.at hC.2.2 nw_RX1_81 rfl) (hts _ wd_5) (by decide +kernel) ⟨Nat.le_of_ble_eq_true rfl, Nat.le_of_ble_eq_true rfl⟩, hts _ wd_6, trivial⟩ (r_preS hC hW) rfl rfl hl.1 rfl (lv_room (Nat.le_of_ble_eq_true rfl)) dX1_noteWarm_15 ⟨Nat.zero_le _, Nat.zero_le _⟩) (fun H locs hWn => ?_)
        replace hW := hWn
        clear hWn hc
        refine lv_sipush (v := 1000) hx hb dX1_noteWarm_18 (by decide) ?_
        refine lv_icmp_ne (tgt := 44) hx hb dX1_noteWarm_21 (by decide) (fun cq => ?_) (fun cq => ?_)
        · replace h := tn cq h
          exact J44 _ _ _ h _ _ hW _ (lv_sub hl [0, 1, 2] rfl)
        · replace h := tp cq h
          refine lv_aload_n hx hb dX1_noteWarm_24 rfl (lv_at hl 0 rfl) ?_
          refine r_getr hC hW 12 (Nat.le_of_ble_eq_true rfl) rfl rfl rfl (by decide) inUX1 (hts _ wd_94) rfl dX1_noteWarm_25 ?_
          refine lv_iload_n hx hb dX1_noteWarm_28 rfl (lv_at hl 2 rfl) ?_
          replace h := bd h
          obtain ⟨r3, hc, h⟩ := h
          refine r_calli hW (va_runVN (As := [.int v2]) (rest := []) hC.1 (c_X0_isWarmEnough l D cy ad A 49 (c_coop 49 rfl) _ _ _ hc) ⟨va_cnB 1 hts (gdN wd_27) rfl rfl rfl (NL.at hC.2.2 nw_RX1_126 rfl) (hts _ wd_12) (by decide +kernel) ⟨Nat.le_of_ble_eq_true rfl, Nat.le_of_ble_eq_true rfl⟩, hts _ wd_29, hts _ wd_30⟩ (r_preV hC hW (Nat.le_of_ble_eq_true rfl) rfl rfl) rfl rfl hl.1 rfl (lv_room (Nat.le_of_ble_eq_true rfl)) dX1_noteWarm_29 ⟨Nat.zero_le _, Nat.zero_le _⟩) (fun H locs hWn => ?_)
          replace hW := hWn
          clear hWn hc
          refine lv_if_eq (tgt := 44) hx hb dX1_noteWarm_32 (by decide) (fun cq => ?_) (fun cq => ?_)
          · replace h := tp cq h
            exact J44 _ _ _ h _ _ hW _ (lv_sub hl [0, 1, 2] rfl)
          · replace h := tn cq h
            refine lv_aload_n hx hb dX1_noteWarm_35 rfl (lv_at hl 0 rfl) ?_
            refine r_getr hC hW 9 (Nat.le_of_ble_eq_true rfl) rfl rfl rfl (by decide) inUX1 (hts _ wd_65) rfl dX1_noteWarm_36 ?_
            refine lv_iload_n hx hb dX1_noteWarm_39 rfl (lv_at hl 2 rfl) ?_
            refine lv_iload_n hx hb dX1_noteWarm_40 rfl (lv_at hl 1 rfl) ?_
            replace h := bd h
            obtain ⟨σ4, hc, h⟩ := h
            refine r_callv hW (va_runSN (As := [.ref (ad 46), .int v2, .int v1]) (rest := []) hC.1 (c_X6_put l D cy ad A 46 7 ⟨Nat.le_of_ble_eq_true rfl, rfl⟩ _ _ _ _ hc) ⟨va_cnB 3 hts (gdN wd_37) rfl rfl rfl (NL.at hC.2.2 nw_RX1_95 rfl) (hts _ wd_5) (by decide +kernel) ⟨Nat.le_of_ble_eq_true rfl, Nat.le_of_ble_eq_true rfl⟩, hts _ wd_38, trivial⟩ (r_preS hC hW) rfl rfl hl.1 rfl (lv_room (Nat.le_of_ble_eq_true rfl)) dX1_noteWarm_41 ⟨Nat.zero_le _, Nat.zero_le _⟩) (fun H locs hWn => ?_)
            replace hW := hWn
            clear hWn hc
            exact J44 _ _ _ h _ _ hW _ (lv_sub hl [0, 1, 2] rfl)
  refine lv_iconst (v := 0) hx hb dX1_noteWarm_0 (by decide) ?_
  refine lv_istore_n (lv' := [(2, .int 0), (0, .ref (ad 38)), (1, .int p0)]) hx hb dX1_noteWarm_1 rfl hl (by decide) rfl (fun ls hln => ?_)
  replace hl := hln
  clear hln
  exact L2 _ _ _ _ h _ _ hW _ (lv_sub hl [1, 2, 0] rfl)
set_option maxHeartbeats 4000000 in
set_option maxRecDepth 100000 in
theorem c_X1_placesOf (l : Launch) (D : va_G) (cy : ClassId × ClassId) (ad : Nat → Nat) (A : Nat → Prop) (N : Nat) (p0 : Int32) (σ : Hp) (r : Int32) (h : t_X1_placesOf N p0 σ = some r) : Ci l yX1_placesOf us_X1_placesOf ({ frames := 2, cells := 0, slots := 0, locals := 43 } : Room) D cy 55 shX ad A [.ref (ad 38), .int p0] σ r σ := by
  unfold t_X1_placesOf at h
  refine Met.ofW (cc := cX1_placesOf) (maxL := 4) (ret := (some .int)) (by decide) rfl ?_
  intro p e s m args below meth c s₁ B hml hv
  obtain ⟨rfl, hP, hK, hD, hA, hN⟩ := hv
  have hx := B.exec
  have hb := B.bytes
  have hr := B.returns
  have hlocks := B.notSynchronized
  have hts : ∀ w ∈ wsU, w.before _ s = true := fun w h => atoms_spec (ws := us_X1_placesOf) B.pre w (List.mem_cons_of_mem _ h)
  have hown : s.vm.findClass RX1 = some m.cls := findClass_of_methodNamed B.named
  have hC : Cx p m c cX1_placesOf 4 s _ wsU RX1 D cy := ⟨⟨hx, hb, hml, hown, hts⟩, hK, hN⟩
  have hW : Wd D cy 55 shX ad A s.heap σ s.heap [] := ⟨hP, hD, va_S.rf, hA⟩
  have hl := lv_entry ([.ref (ad 38), .int p0]) (n := 4) (Nat.le_of_ble_eq_true rfl)
  rw [lg_entry_eq]
  generalize (lg_sl ([.ref (ad 38), .int p0]) ++ List.replicate (4 - (lg_sl ([.ref (ad 38), .int p0])).length) Slot.unset).toArray = ls at hl ⊢
  have hl : lv_has ls 4 [(0, .ref (ad 38)), (1, .int p0)] := hl
  have L4 : ∀ (f : Nat) (v1 : Int32) (v2 : Int32) (v3 : Int32), t_X1_placesOf_4 N f v1 v2 v3 σ = some r → ∀ (H : Heap) (locs : List Loc), Wd D cy 55 shX ad A s.heap σ H locs → ∀ ls : Array Slot, lv_has ls 4 [(0, .ref (ad 38)), (1, .int v1), (2, .int v2), (3, .int v3)] → Gi p l e us_X1_placesOf ({ frames := 2, cells := 0, slots := 0, locals := 43 } : Room) s m [.ref (ad 38), .int p0] below meth c D cy 55 shX ad A r σ H locs (F0 m 4 ls []) := by
    intro f
    unfold t_X1_placesOf_4
    refine loopG_ind (fun (T : Int32 → Int32 → Int32 → Hp → Option Int32) => ∀ (v1 : Int32) (v2 : Int32) (v3 : Int32), T v1 v2 v3 σ = some r → ∀ (H : Heap) (locs : List Loc), Wd D cy 55 shX ad A s.heap σ H locs → ∀ ls : Array Slot, lv_has ls 4 [(0, .ref (ad 38)), (1, .int v1), (2, .int v2), (3, .int v3)] → Gi p l e us_X1_placesOf ({ frames := 2, cells := 0, slots := 0, locals := 43 } : Room) s m [.ref (ad 38), .int p0] below meth c D cy 55 shX ad A r σ H locs (F0 m 4 ls [])) ?_ ?_ f
    · intro v1 v2 v3 h; exact absurd h (by simp)
    · intro k4 ih4
      have J28 : ∀ (v1 : Int32) (v2 : Int32) (v3 : Int32), t_X1_placesOf_28 N k4 v1 v2 v3 σ = some r → ∀ (H : Heap) (locs : List Loc), Wd D cy 55 shX ad A s.heap σ H locs → ∀ ls : Array Slot, lv_has ls 4 [(0, .ref (ad 38)), (1, .int v1), (2, .int v2), (3, .int v3)] → Gi p l e us_X1_placesOf ({ frames := 2, cells := 0, slots := 0, locals := 43 } : Room) s m [.ref (ad 38), .int p0] below meth c D cy 55 shX ad A r σ H locs (F0 m 28 ls []) := by
        intro v1 v2 v3 h H locs hW ls hl
        unfold t_X1_placesOf_28 at h
        replace h := bx h
        obtain ⟨x1, ex1, h⟩ := h
        refine lv_iinc (v := x1) (lv' := [(3, .int x1), (0, .ref (ad 38)), (1, .int v1), (2, .int v2)]) hx hb dX1_placesOf_28 hl (k := 3) rfl (by rw [ex1]; rfl) (by decide) rfl (fun ls hln => ?_)
        replace hl := hln
        clear hln ex1
        refine lv_goto (tgt := 4) hx hb dX1_placesOf_31 (by decide) ?_
        exact ih4 _ _ _ h _ _ hW _ (lv_sub hl [1, 2, 3, 0] rfl)
      intro v1 v2 v3 h H locs hW ls hl
      refine lv_iload_n hx hb dX1_placesOf_4 rfl (lv_at hl 3 rfl) ?_
      refine lv_aload_n hx hb dX1_placesOf_5 rfl (lv_at hl 0 rfl) ?_
      refine r_geti hC hW 0 (Nat.le_of_ble_eq_true rfl) rfl rfl rfl (by decide) inUX1 (hts _ wd_58) rfl dX1_placesOf_6 ?_
      refine lv_icmp_ge (tgt := 34) hx hb dX1_placesOf_9 (by decide) (fun cq => ?_) (fun cq => ?_)
      · replace h := tp cq h
        refine lv_iload_n hx hb dX1_placesOf_34 rfl (lv_at hl 2 rfl) ?_
        exact r_iretP hC hr hlocks h hW dX1_placesOf_35
      · replace h := tn cq h
        refine lv_aload_n hx hb dX1_placesOf_12 rfl (lv_at hl 0 rfl) ?_
        refine lv_iload_n hx hb dX1_placesOf_13 rfl (lv_at hl 1 rfl) ?_
        refine lv_iload_n hx hb dX1_placesOf_14 rfl (lv_at hl 3 rfl) ?_
        replace h := bd h
        obtain ⟨r2, hc, h⟩ := h
        refine r_calli hW (va_runV (As := [.int v1, .int v3]) (rest := []) hC.1 (c_X1_ordersWith l D cy ad A _ _ _ _ hc) (cwV 2 hts (gdV wd_70 wd_71 wd_72 wd_73 wd_69) rfl rfl rfl (by decide +kernel) ⟨Nat.le_of_ble_eq_true rfl, Nat.le_of_ble_eq_true rfl⟩) (r_preV hC hW (Nat.le_of_ble_eq_true rfl) rfl rfl) rfl rfl hl.1 rfl (lv_room (Nat.le_of_ble_eq_true rfl)) dX1_placesOf_15 ⟨Nat.zero_le _, Nat.zero_le _⟩) (fun H locs hWn => ?_)
        replace hW := hWn
        clear hWn hc
        refine lv_if_le (tgt := 28) hx hb dX1_placesOf_18 (by decide) (fun cq => ?_) (fun cq => ?_)
        · replace h := tp cq h
          exact J28 _ _ _ h _ _ hW _ (lv_sub hl [0, 1, 2, 3] rfl)
        · replace h := tn cq h
          refine lv_iload_n hx hb dX1_placesOf_21 rfl (lv_at hl 2 rfl) ?_
          refine lv_iload_n hx hb dX1_placesOf_22 rfl (lv_at hl 3 rfl) ?_
          replace h := bd h
          obtain ⟨r3, hc, h⟩ := h
          refine r_calli hW (va_runSN (As := [.int v3]) (rest := [.int v2]) hC.1 (c_X6_bit l D cy ad A _ _ _ hc) ⟨va_cnB 1 hts (gdN wd_25) rfl rfl rfl (NL.at hC.2.2 nw_RX1_69 rfl) (hts _ wd_5) (by decide +kernel) ⟨Nat.le_of_ble_eq_true rfl, Nat.le_of_ble_eq_true rfl⟩, hts _ wd_26, trivial⟩ (r_preS hC hW) rfl rfl hl.1 rfl (lv_room (Nat.le_of_ble_eq_true rfl)) dX1_placesOf_23 ⟨Nat.zero_le _, Nat.zero_le _⟩) (fun H locs hWn => ?_)
          replace hW := hWn
          clear hWn hc
          refine lv_ior hx hb dX1_placesOf_26 ?_
          replace h := bx h
          obtain ⟨x4, ex4, h⟩ := h
          refine tope ex4 ?_
          clear ex4
          refine lv_istore_n (lv' := [(2, .int x4), (0, .ref (ad 38)), (1, .int v1), (3, .int v3)]) hx hb dX1_placesOf_27 rfl hl (by decide) rfl (fun ls hln => ?_)
          replace hl := hln
          clear hln
          exact J28 _ _ _ h _ _ hW _ (lv_sub hl [1, 2, 0, 3] rfl)
  refine lv_iconst (v := 0) hx hb dX1_placesOf_0 (by decide) ?_
  refine lv_istore_n (lv' := [(2, .int 0), (0, .ref (ad 38)), (1, .int p0)]) hx hb dX1_placesOf_1 rfl hl (by decide) rfl (fun ls hln => ?_)
  replace hl := hln
  clear hln
  refine lv_iconst (v := 0) hx hb dX1_placesOf_2 (by decide) ?_
  refine lv_istore_n (lv' := [(3, .int 0), (2, .int 0), (0, .ref (ad 38)), (1, .int p0)]) hx hb dX1_placesOf_3 rfl hl (by decide) rfl (fun ls hln => ?_)
  replace hl := hln
  clear hln
  exact L4 _ _ _ _ h _ _ hW _ (lv_sub hl [2, 3, 1, 0] rfl)
set_option maxHeartbeats 4000000 in
set_option maxRecDepth 100000 in
theorem c_X1_search (l : Launch) (D : va_G) (cy : ClassId × ClassId) (ad : Nat → Nat) (A : Nat → Prop) (N : Nat) (σ : Hp) (σ' : Hp) (h : t_X1_search N σ = some σ') : Cv l yX1_search us_X1_search ({ frames := 12, cells := 0, slots := 0, locals := 317 } : Room) D cy 55 shX ad A [.ref (ad 38)] σ σ' := by
  unfold t_X1_search at h
  refine Met.ofW (cc := cX1_search) (maxL := 1) (ret := none) (by decide) rfl ?_
  intro p e s m args below meth c s₁ B hml hv
  obtain ⟨rfl, hP, hK, hD, hA, hN⟩ := hv
  have hx := B.exec
  have hb := B.bytes
  have hr := B.returns
  have hlocks := B.notSynchronized
  have hts : ∀ w ∈ wsU, w.before _ s = true := fun w h => atoms_spec (ws := us_X1_search) B.pre w (List.mem_cons_of_mem _ h)
  have hown : s.vm.findClass RX1 = some m.cls := findClass_of_methodNamed B.named
  have hC : Cx p m c cX1_search 1 s _ wsU RX1 D cy := ⟨⟨hx, hb, hml, hown, hts⟩, hK, hN⟩
  have hW : Wd D cy 55 shX ad A s.heap σ s.heap [] := ⟨hP, hD, va_S.rf, hA⟩
  have hl := lv_entry ([.ref (ad 38)]) (n := 1) (Nat.le_of_ble_eq_true rfl)
  rw [lg_entry_eq]
  generalize (lg_sl ([.ref (ad 38)]) ++ List.replicate (1 - (lg_sl ([.ref (ad 38)])).length) Slot.unset).toArray = ls at hl ⊢
  have hl : lv_has ls 1 [(0, .ref (ad 38))] := hl
  refine lv_aload_n hx hb dX1_search_0 rfl (lv_at hl 0 rfl) ?_
  refine lv_aload_n hx hb dX1_search_1 rfl (lv_at hl 0 rfl) ?_
  refine lv_iconst (v := 0) hx hb dX1_search_2 (by decide) ?_
  refine lv_iconst (v := 0) hx hb dX1_search_3 (by decide) ?_
  refine lv_iconst (v := 0) hx hb dX1_search_4 (by decide) ?_
  replace h := ob h
  obtain ⟨r1, σ2, hc, h⟩ := h
  refine r_calli hW (va_runS (As := [.ref (ad 38), .int 0, .int 0, .int 0]) (rest := [.ref (ad 38)]) hC.1 (c_X1_lay l D cy ad A N 9 _ _ _ _ _ _ hc) (va_cwS 4 hts (gdS wd_88 wd_89 wd_73 wd_87) rfl rfl rfl (by decide +kernel) ⟨Nat.le_of_ble_eq_true rfl, Nat.le_of_ble_eq_true rfl⟩) (r_preS hC hW) rfl rfl hl.1 rfl (lv_room (Nat.le_of_ble_eq_true rfl)) dX1_search_5 ⟨Nat.zero_le _, Nat.zero_le _⟩) (fun H locs hWn => ?_)
  replace hW := hWn
  clear hWn hc
  refine r_put hC hW 1 (Nat.le_of_ble_eq_true rfl) rfl rfl rfl (by decide) inUX1 tyX1 tyX1_ok nmX1 (hts _ wd_59) rfl rfl ⟨rfl, rfl⟩ dX1_search_8 (fun σ3 eσ3 H locs hWn => ?_)
  replace h := bn eσ3 h
  replace hW := hWn
  clear hWn eσ3
  exact r_vretW hC hr hlocks h hW dX1_search_11
set_option maxHeartbeats 4000000 in
set_option maxRecDepth 100000 in
theorem c_X1_takeClue (l : Launch) (D : va_G) (cy : ClassId × ClassId) (ad : Nat → Nat) (A : Nat → Prop) (p0 : Int32) (p1 : Int32) (p2 : Int32) (σ : Hp) (σ' : Hp) (h : t_X1_takeClue p0 p1 p2 σ = some σ') : Cv l yX1_takeClue us_X1_takeClue ({ frames := 1, cells := 0, slots := 0, locals := 22 } : Room) D cy 55 shX ad A [.ref (ad 38), .int p0, .int p1, .int p2] σ σ' := by
  unfold t_X1_takeClue at h
  refine Met.ofW (cc := cX1_takeClue) (maxL := 4) (ret := none) (by decide) rfl ?_
  intro p e s m args below meth c s₁ B hml hv
  obtain ⟨rfl, hP, hK, hD, hA, hN⟩ := hv
  have hx := B.exec
  have hb := B.bytes
  have hr := B.returns
  have hlocks := B.notSynchronized
  have hts : ∀ w ∈ wsU, w.before _ s = true := fun w h => atoms_spec (ws := us_X1_takeClue) B.pre w (List.mem_cons_of_mem _ h)
  have hown : s.vm.findClass RX1 = some m.cls := findClass_of_methodNamed B.named
  have hC : Cx p m c cX1_takeClue 4 s _ wsU RX1 D cy := ⟨⟨hx, hb, hml, hown, hts⟩, hK, hN⟩
  have hW : Wd D cy 55 shX ad A s.heap σ s.heap [] := ⟨hP, hD, va_S.rf, hA⟩
  have hl := lv_entry ([.ref (ad 38), .int p0, .int p1, .int p2]) (n := 4) (Nat.le_of_ble_eq_true rfl)
  rw [lg_entry_eq]
  generalize (lg_sl ([.ref (ad 38), .int p0, .int p1, .int p2]) ++ List.replicate (4 - (lg_sl ([.ref (ad 38), .int p0, .int p1, .int p2])).length) Slot.unset).toArray = ls at hl ⊢
  have hl : lv_has ls 4 [(0, .ref (ad 38)), (1, .int p0), (2, .int p1), (3, .int p2)] := hl
  refine lv_iload_n hx hb dX1_takeClue_0 rfl (lv_at hl 1 rfl) ?_
  by_cases cq0 : p0 = 0
  · replace h := tp cq0 h
    refine lv_tableIn (off := 27) (tgt := 28) hx hb dX1_takeClue_1 (by rw [cq0]; decide) (by rw [cq0]; decide) (by rw [cq0]; rfl) (by decide) ?_
    refine lv_aload_n hx hb dX1_takeClue_28 rfl (lv_at hl 0 rfl) ?_
    refine r_getr hC hW 7 (Nat.le_of_ble_eq_true rfl) rfl rfl rfl (by decide) inUX1 (hts _ wd_63) rfl dX1_takeClue_29 ?_
    refine lv_iload_n hx hb dX1_takeClue_32 rfl (lv_at hl 3 rfl) ?_
    refine lv_aload_n hx hb dX1_takeClue_33 rfl (lv_at hl 0 rfl) ?_
    refine r_getr hC hW 7 (Nat.le_of_ble_eq_true rfl) rfl rfl rfl (by decide) inUX1 (hts _ wd_63) rfl dX1_takeClue_34 ?_
    refine lv_iload_n hx hb dX1_takeClue_37 rfl (lv_at hl 3 rfl) ?_
    replace h := bd h
    obtain ⟨r1, hc, h⟩ := h
    refine r_calli hW (va_runSN (As := [.ref (ad 44), .int p2]) (rest := [.int p2, .ref (ad 44)]) hC.1 (c_X6_at l D cy ad A 44 7 ⟨Nat.le_of_ble_eq_true rfl, rfl⟩ _ _ _ hc) ⟨va_cnB 2 hts (gdN wd_4) rfl rfl rfl (NL.at hC.2.2 nw_RX1_81 rfl) (hts _ wd_5) (by decide +kernel) ⟨Nat.le_of_ble_eq_true rfl, Nat.le_of_ble_eq_true rfl⟩, hts _ wd_6, trivial⟩ (r_preS hC hW) rfl rfl hl.1 rfl (lv_room (Nat.le_of_ble_eq_true rfl)) dX1_takeClue_38 ⟨Nat.zero_le _, Nat.zero_le _⟩) (fun H locs hWn => ?_)
    replace hW := hWn
    clear hWn hc
    refine lv_iload_n hx hb dX1_takeClue_41 rfl (lv_at hl 2 rfl) ?_
    replace h := bd h
    obtain ⟨r2, hc, h⟩ := h
    refine r_calli hW (va_runSN (As := [.int p1]) (rest := [.int r1, .int p2, .ref (ad 44)]) hC.1 (c_X6_bit l D cy ad A _ _ _ hc) ⟨va_cnB 1 hts (gdN wd_25) rfl rfl rfl (NL.at hC.2.2 nw_RX1_69 rfl) (hts _ wd_5) (by decide +kernel) ⟨Nat.le_of_ble_eq_true rfl, Nat.le_of_ble_eq_true rfl⟩, hts _ wd_26, trivial⟩ (r_preS hC hW) rfl rfl hl.1 rfl (lv_room (Nat.le_of_ble_eq_true rfl)) dX1_takeClue_42 ⟨Nat.zero_le _, Nat.zero_le _⟩) (fun H locs hWn => ?_)
    replace hW := hWn
    clear hWn hc
    refine lv_ior hx hb dX1_takeClue_45 ?_
    replace h := bd h
    obtain ⟨σ3, hc, h⟩ := h
    refine r_callv hW (va_runSN (As := [.ref (ad 44), .int p2, .int (r1 ||| r2)]) (rest := []) hC.1 (c_X6_put l D cy ad A 44 7 ⟨Nat.le_of_ble_eq_true rfl, rfl⟩ _ _ _ _ hc) ⟨va_cnB 3 hts (gdN wd_37) rfl rfl rfl (NL.at hC.2.2 nw_RX1_95 rfl) (hts _ wd_5) (by decide +kernel) ⟨Nat.le_of_ble_eq_true rfl, Nat.le_of_ble_eq_true rfl⟩, hts _ wd_38, trivial⟩ (r_preS hC hW) rfl rfl hl.1 rfl (lv_room (Nat.le_of_ble_eq_true rfl)) dX1_takeClue_46 ⟨Nat.zero_le _, Nat.zero_le _⟩) (fun H locs hWn => ?_)
    replace hW := hWn
    clear hWn hc
    refine lv_goto (tgt := 123) hx hb dX1_takeClue_49 (by decide) ?_
    exact r_vretW hC hr hlocks h hW dX1_takeClue_123
  replace h := tn cq0 h
  by_cases cq1 : p0 = 1
  · replace h := tp cq1 h
    refine lv_tableIn (off := 51) (tgt := 52) hx hb dX1_takeClue_1 (by rw [cq1]; decide) (by rw [cq1]; decide) (by rw [cq1]; rfl) (by decide) ?_
    refine lv_aload_n hx hb dX1_takeClue_52 rfl (lv_at hl 0 rfl) ?_
    refine r_getr hC hW 8 (Nat.le_of_ble_eq_true rfl) rfl rfl rfl (by decide) inUX1 (hts _ wd_64) rfl dX1_takeClue_53 ?_
    refine lv_iload_n hx hb dX1_takeClue_56 rfl (lv_at hl 3 rfl) ?_
    refine lv_aload_n hx hb dX1_takeClue_57 rfl (lv_at hl 0 rfl) ?_
    refine r_getr hC hW 8 (Nat.le_of_ble_eq_true rfl) rfl rfl rfl (by decide) inUX1 (hts _ wd_64) rfl dX1_takeClue_58 ?_
    refine lv_iload_n hx hb dX1_takeClue_61 rfl (lv_at hl 3 rfl) ?_
    replace h := bd h
    obtain ⟨r4, hc, h⟩ := h
    refine r_calli hW (va_runSN (As := [.ref (ad 45), .int p2]) (rest := [.int p2, .ref (ad 45)]) hC.1 (c_X6_at l D cy ad A 45 7 ⟨Nat.le_of_ble_eq_true rfl, rfl⟩ _ _ _ hc) ⟨va_cnB 2 hts (gdN wd_4) rfl rfl rfl (NL.at hC.2.2 nw_RX1_81 rfl) (hts _ wd_5) (by decide +kernel) ⟨Nat.le_of_ble_eq_true rfl, Nat.le_of_ble_eq_true rfl⟩, hts _ wd_6, trivial⟩ (r_preS hC hW) rfl rfl hl.1 rfl (lv_room (Nat.le_of_ble_eq_true rfl)) dX1_takeClue_62 ⟨Nat.zero_le _, Nat.zero_le _⟩) (fun H locs hWn => ?_)
    replace hW := hWn
    clear hWn hc
    refine lv_iload_n hx hb dX1_takeClue_65 rfl (lv_at hl 2 rfl) ?_
    replace h := bd h
    obtain ⟨r5, hc, h⟩ := h
    refine r_calli hW (va_runSN (As := [.int p1]) (rest := [.int r4, .int p2, .ref (ad 45)]) hC.1 (c_X6_bit l D cy ad A _ _ _ hc) ⟨va_cnB 1 hts (gdN wd_25) rfl rfl rfl (NL.at hC.2.2 nw_RX1_69 rfl) (hts _ wd_5) (by decide +kernel) ⟨Nat.le_of_ble_eq_true rfl, Nat.le_of_ble_eq_true rfl⟩, hts _ wd_26, trivial⟩ (r_preS hC hW) rfl rfl hl.1 rfl (lv_room (Nat.le_of_ble_eq_true rfl)) dX1_takeClue_66 ⟨Nat.zero_le _, Nat.zero_le _⟩) (fun H locs hWn => ?_)
    replace hW := hWn
    clear hWn hc
    refine lv_ior hx hb dX1_takeClue_69 ?_
    replace h := bd h
    obtain ⟨σ6, hc, h⟩ := h
    refine r_callv hW (va_runSN (As := [.ref (ad 45), .int p2, .int (r4 ||| r5)]) (rest := []) hC.1 (c_X6_put l D cy ad A 45 7 ⟨Nat.le_of_ble_eq_true rfl, rfl⟩ _ _ _ _ hc) ⟨va_cnB 3 hts (gdN wd_37) rfl rfl rfl (NL.at hC.2.2 nw_RX1_95 rfl) (hts _ wd_5) (by decide +kernel) ⟨Nat.le_of_ble_eq_true rfl, Nat.le_of_ble_eq_true rfl⟩, hts _ wd_38, trivial⟩ (r_preS hC hW) rfl rfl hl.1 rfl (lv_room (Nat.le_of_ble_eq_true rfl)) dX1_takeClue_70 ⟨Nat.zero_le _, Nat.zero_le _⟩) (fun H locs hWn => ?_)
    replace hW := hWn
    clear hWn hc
    refine lv_goto (tgt := 123) hx hb dX1_takeClue_73 (by decide) ?_
    exact r_vretW hC hr hlocks h hW dX1_takeClue_123
  replace h := tn cq1 h
  by_cases cq2 : p0 = 2
  · replace h := tp cq2 h
    refine lv_tableIn (off := 75) (tgt := 76) hx hb dX1_takeClue_1 (by rw [cq2]; decide) (by rw [cq2]; decide) (by rw [cq2]; rfl) (by decide) ?_
    refine lv_aload_n hx hb dX1_takeClue_76 rfl (lv_at hl 0 rfl) ?_
    refine r_getr hC hW 6 (Nat.le_of_ble_eq_true rfl) rfl rfl rfl (by decide) inUX1 (hts _ wd_62) rfl dX1_takeClue_77 ?_
    refine lv_iload_n hx hb dX1_takeClue_80 rfl (lv_at hl 2 rfl) ?_
    refine lv_aload_n hx hb dX1_takeClue_81 rfl (lv_at hl 0 rfl) ?_
    refine r_getr hC hW 6 (Nat.le_of_ble_eq_true rfl) rfl rfl rfl (by decide) inUX1 (hts _ wd_62) rfl dX1_takeClue_82 ?_
    refine lv_iload_n hx hb dX1_takeClue_85 rfl (lv_at hl 2 rfl) ?_
    replace h := bd h
    obtain ⟨r7, hc, h⟩ := h
    refine r_calli hW (va_runSN (As := [.ref (ad 43), .int p1]) (rest := [.int p1, .ref (ad 43)]) hC.1 (c_X6_at l D cy ad A 43 7 ⟨Nat.le_of_ble_eq_true rfl, rfl⟩ _ _ _ hc) ⟨va_cnB 2 hts (gdN wd_4) rfl rfl rfl (NL.at hC.2.2 nw_RX1_81 rfl) (hts _ wd_5) (by decide +kernel) ⟨Nat.le_of_ble_eq_true rfl, Nat.le_of_ble_eq_true rfl⟩, hts _ wd_6, trivial⟩ (r_preS hC hW) rfl rfl hl.1 rfl (lv_room (Nat.le_of_ble_eq_true rfl)) dX1_takeClue_86 ⟨Nat.zero_le _, Nat.zero_le _⟩) (fun H locs hWn => ?_)
    replace hW := hWn
    clear hWn hc
    refine lv_iload_n hx hb dX1_takeClue_89 rfl (lv_at hl 3 rfl) ?_
    replace h := bd h
    obtain ⟨r8, hc, h⟩ := h
    refine r_calli hW (va_runSN (As := [.int p2]) (rest := [.int r7, .int p1, .ref (ad 43)]) hC.1 (c_X6_bit l D cy ad A _ _ _ hc) ⟨va_cnB 1 hts (gdN wd_25) rfl rfl rfl (NL.at hC.2.2 nw_RX1_69 rfl) (hts _ wd_5) (by decide +kernel) ⟨Nat.le_of_ble_eq_true rfl, Nat.le_of_ble_eq_true rfl⟩, hts _ wd_26, trivial⟩ (r_preS hC hW) rfl rfl hl.1 rfl (lv_room (Nat.le_of_ble_eq_true rfl)) dX1_takeClue_90 ⟨Nat.zero_le _, Nat.zero_le _⟩) (fun H locs hWn => ?_)
    replace hW := hWn
    clear hWn hc
    refine lv_iand hx hb dX1_takeClue_93 ?_
    replace h := bd h
    obtain ⟨σ9, hc, h⟩ := h
    refine r_callv hW (va_runSN (As := [.ref (ad 43), .int p1, .int (r7 &&& r8)]) (rest := []) hC.1 (c_X6_put l D cy ad A 43 7 ⟨Nat.le_of_ble_eq_true rfl, rfl⟩ _ _ _ _ hc) ⟨va_cnB 3 hts (gdN wd_37) rfl rfl rfl (NL.at hC.2.2 nw_RX1_95 rfl) (hts _ wd_5) (by decide +kernel) ⟨Nat.le_of_ble_eq_true rfl, Nat.le_of_ble_eq_true rfl⟩, hts _ wd_38, trivial⟩ (r_preS hC hW) rfl rfl hl.1 rfl (lv_room (Nat.le_of_ble_eq_true rfl)) dX1_takeClue_94 ⟨Nat.zero_le _, Nat.zero_le _⟩) (fun H locs hWn => ?_)
    replace hW := hWn
    clear hWn hc
    refine lv_goto (tgt := 123) hx hb dX1_takeClue_97 (by decide) ?_
    exact r_vretW hC hr hlocks h hW dX1_takeClue_123
  replace h := tn cq2 h
  refine lv_tableOut (tgt := 100) hx hb dX1_takeClue_1 (by have z0 := ti_ne cq0; have z1 := ti_ne cq1; have z2 := ti_ne cq2; simp only [ti_0, ti_1, ti_2] at z0 z1 z2; omega) (by decide) ?_
  refine lv_aload_n hx hb dX1_takeClue_100 rfl (lv_at hl 0 rfl) ?_
  refine r_getr hC hW 6 (Nat.le_of_ble_eq_true rfl) rfl rfl rfl (by decide) inUX1 (hts _ wd_62) rfl dX1_takeClue_101 ?_
  refine lv_iload_n hx hb dX1_takeClue_104 rfl (lv_at hl 2 rfl) ?_
  refine lv_aload_n hx hb dX1_takeClue_105 rfl (lv_at hl 0 rfl) ?_
  refine r_getr hC hW 6 (Nat.le_of_ble_eq_true rfl) rfl rfl rfl (by decide) inUX1 (hts _ wd_62) rfl dX1_takeClue_106 ?_
  refine lv_iload_n hx hb dX1_takeClue_109 rfl (lv_at hl 2 rfl) ?_
  replace h := bd h
  obtain ⟨r10, hc, h⟩ := h
  refine r_calli hW (va_runSN (As := [.ref (ad 43), .int p1]) (rest := [.int p1, .ref (ad 43)]) hC.1 (c_X6_at l D cy ad A 43 7 ⟨Nat.le_of_ble_eq_true rfl, rfl⟩ _ _ _ hc) ⟨va_cnB 2 hts (gdN wd_4) rfl rfl rfl (NL.at hC.2.2 nw_RX1_81 rfl) (hts _ wd_5) (by decide +kernel) ⟨Nat.le_of_ble_eq_true rfl, Nat.le_of_ble_eq_true rfl⟩, hts _ wd_6, trivial⟩ (r_preS hC hW) rfl rfl hl.1 rfl (lv_room (Nat.le_of_ble_eq_true rfl)) dX1_takeClue_110 ⟨Nat.zero_le _, Nat.zero_le _⟩) (fun H locs hWn => ?_)
  replace hW := hWn
  clear hWn hc
  refine lv_iload_n hx hb dX1_takeClue_113 rfl (lv_at hl 3 rfl) ?_
  replace h := bd h
  obtain ⟨r11, hc, h⟩ := h
  refine r_calli hW (va_runSN (As := [.int p2]) (rest := [.int r10, .int p1, .ref (ad 43)]) hC.1 (c_X6_bit l D cy ad A _ _ _ hc) ⟨va_cnB 1 hts (gdN wd_25) rfl rfl rfl (NL.at hC.2.2 nw_RX1_69 rfl) (hts _ wd_5) (by decide +kernel) ⟨Nat.le_of_ble_eq_true rfl, Nat.le_of_ble_eq_true rfl⟩, hts _ wd_26, trivial⟩ (r_preS hC hW) rfl rfl hl.1 rfl (lv_room (Nat.le_of_ble_eq_true rfl)) dX1_takeClue_114 ⟨Nat.zero_le _, Nat.zero_le _⟩) (fun H locs hWn => ?_)
  replace hW := hWn
  clear hWn hc
  refine lv_iconst (v := (-1)) hx hb dX1_takeClue_117 (by decide) ?_
  refine lv_ixor hx hb dX1_takeClue_118 ?_
  refine lv_iand hx hb dX1_takeClue_119 ?_
  replace h := bd h
  obtain ⟨σ12, hc, h⟩ := h
  refine r_callv hW (va_runSN (As := [.ref (ad 43), .int p1, .int (r10 &&& (r11 ^^^ (-1)))]) (rest := []) hC.1 (c_X6_put l D cy ad A 43 7 ⟨Nat.le_of_ble_eq_true rfl, rfl⟩ _ _ _ _ hc) ⟨va_cnB 3 hts (gdN wd_37) rfl rfl rfl (NL.at hC.2.2 nw_RX1_95 rfl) (hts _ wd_5) (by decide +kernel) ⟨Nat.le_of_ble_eq_true rfl, Nat.le_of_ble_eq_true rfl⟩, hts _ wd_38, trivial⟩ (r_preS hC hW) rfl rfl hl.1 rfl (lv_room (Nat.le_of_ble_eq_true rfl)) dX1_takeClue_120 ⟨Nat.zero_le _, Nat.zero_le _⟩) (fun H locs hWn => ?_)
  replace hW := hWn
  clear hWn hc
  exact r_vretW hC hr hlocks h hW dX1_takeClue_123
set_option maxHeartbeats 4000000 in
set_option maxRecDepth 100000 in
theorem c_X1_takeClues (l : Launch) (D : va_G) (cy : ClassId × ClassId) (ad : Nat → Nat) (A : Nat → Prop) (N : Nat) (σ : Hp) (σ' : Hp) (h : t_X1_takeClues N σ = some σ') : Cv l yX1_takeClues us_X1_takeClues ({ frames := 2, cells := 0, slots := 0, locals := 45 } : Room) D cy 55 shX ad A [.ref (ad 38), .ref (ad 5)] σ σ' := by
  unfold t_X1_takeClues at h
  refine Met.ofW (cc := cX1_takeClues) (maxL := 3) (ret := none) (by decide) rfl ?_
  intro p e s m args below meth c s₁ B hml hv
  obtain ⟨rfl, hP, hK, hD, hA, hN⟩ := hv
  have hx := B.exec
  have hb := B.bytes
  have hr := B.returns
  have hlocks := B.notSynchronized
  have hts : ∀ w ∈ wsU, w.before _ s = true := fun w h => atoms_spec (ws := us_X1_takeClues) B.pre w (List.mem_cons_of_mem _ h)
  have hown : s.vm.findClass RX1 = some m.cls := findClass_of_methodNamed B.named
  have hC : Cx p m c cX1_takeClues 3 s _ wsU RX1 D cy := ⟨⟨hx, hb, hml, hown, hts⟩, hK, hN⟩
  have hW : Wd D cy 55 shX ad A s.heap σ s.heap [] := ⟨hP, hD, va_S.rf, hA⟩
  have hl := lv_entry ([.ref (ad 38), .ref (ad 5)]) (n := 3) (Nat.le_of_ble_eq_true rfl)
  rw [lg_entry_eq]
  generalize (lg_sl ([.ref (ad 38), .ref (ad 5)]) ++ List.replicate (3 - (lg_sl ([.ref (ad 38), .ref (ad 5)])).length) Slot.unset).toArray = ls at hl ⊢
  have hl : lv_has ls 3 [(0, .ref (ad 38)), (1, .ref (ad 5))] := hl
  have L2 : ∀ (f : Nat) (v2 : Int32) (σ : Hp), t_X1_takeClues_2 N f v2 σ = some σ' → ∀ (H : Heap) (locs : List Loc), Wd D cy 55 shX ad A s.heap σ H locs → ∀ ls : Array Slot, lv_has ls 3 [(0, .ref (ad 38)), (1, .ref (ad 5)), (2, .int v2)] → Gv p l e us_X1_takeClues ({ frames := 2, cells := 0, slots := 0, locals := 45 } : Room) s m [.ref (ad 38), .ref (ad 5)] below meth c D cy 55 shX ad A σ' H locs (F0 m 2 ls []) := by
    intro f
    unfold t_X1_takeClues_2
    refine loopG_ind (fun (T : Int32 → Hp → Option Hp) => ∀ (v2 : Int32) (σ : Hp), T v2 σ = some σ' → ∀ (H : Heap) (locs : List Loc), Wd D cy 55 shX ad A s.heap σ H locs → ∀ ls : Array Slot, lv_has ls 3 [(0, .ref (ad 38)), (1, .ref (ad 5)), (2, .int v2)] → Gv p l e us_X1_takeClues ({ frames := 2, cells := 0, slots := 0, locals := 45 } : Room) s m [.ref (ad 38), .ref (ad 5)] below meth c D cy 55 shX ad A σ' H locs (F0 m 2 ls [])) ?_ ?_ f
    · intro v2 σ h; exact absurd h (by simp)
    · intro k2 ih2
      intro v2 σ h H locs hW ls hl
      refine lv_iload_n hx hb dX1_takeClues_2 rfl (lv_at hl 2 rfl) ?_
      refine lv_aload_n hx hb dX1_takeClues_3 rfl (lv_at hl 1 rfl) ?_
      refine r_getiN hC hW 0 (Nat.le_of_ble_eq_true rfl) rfl rfl rfl (by decide) inUX2 (hC.2.2.use nf_RX1_73 rfl) rfl dX1_takeClues_4 ?_
      refine lv_icmp_ge (tgt := 44) hx hb dX1_takeClues_7 (by decide) (fun cq => ?_) (fun cq => ?_)
      · replace h := tp cq h
        exact r_vretW hC hr hlocks h hW dX1_takeClues_44
      · replace h := tn cq h
        refine lv_aload_n hx hb dX1_takeClues_10 rfl (lv_at hl 0 rfl) ?_
        refine lv_aload_n hx hb dX1_takeClues_11 rfl (lv_at hl 1 rfl) ?_
        refine r_getrN hC hW 2 (Nat.le_of_ble_eq_true rfl) rfl rfl rfl (by decide) inUX2 (hC.2.2.use nf_RX1_78 rfl) rfl dX1_takeClues_12 ?_
        refine lv_iload_n hx hb dX1_takeClues_15 rfl (lv_at hl 2 rfl) ?_
        replace h := bd h
        obtain ⟨r1, hc, h⟩ := h
        refine r_calli hW (va_runSN (As := [.ref (ad 6), .int v2]) (rest := [.ref (ad 38)]) hC.1 (c_X6_at l D cy ad A 6 12 ⟨Nat.le_of_ble_eq_true rfl, rfl⟩ _ _ _ hc) ⟨va_cnB 2 hts (gdN wd_4) rfl rfl rfl (NL.at hC.2.2 nw_RX1_81 rfl) (hts _ wd_5) (by decide +kernel) ⟨Nat.le_of_ble_eq_true rfl, Nat.le_of_ble_eq_true rfl⟩, hts _ wd_6, trivial⟩ (r_preS hC hW) rfl rfl hl.1 rfl (lv_room (Nat.le_of_ble_eq_true rfl)) dX1_takeClues_16 ⟨Nat.zero_le _, Nat.zero_le _⟩) (fun H locs hWn => ?_)
        replace hW := hWn
        clear hWn hc
        refine lv_aload_n hx hb dX1_takeClues_19 rfl (lv_at hl 1 rfl) ?_
        refine r_getrN hC hW 3 (Nat.le_of_ble_eq_true rfl) rfl rfl rfl (by decide) inUX2 (hC.2.2.use nf_RX1_85 rfl) rfl dX1_takeClues_20 ?_
        refine lv_iload_n hx hb dX1_takeClues_23 rfl (lv_at hl 2 rfl) ?_
        replace h := bd h
        obtain ⟨r2, hc, h⟩ := h
        refine r_calli hW (va_runSN (As := [.ref (ad 7), .int v2]) (rest := [.int r1, .ref (ad 38)]) hC.1 (c_X6_at l D cy ad A 7 12 ⟨Nat.le_of_ble_eq_true rfl, rfl⟩ _ _ _ hc) ⟨va_cnB 2 hts (gdN wd_4) rfl rfl rfl (NL.at hC.2.2 nw_RX1_81 rfl) (hts _ wd_5) (by decide +kernel) ⟨Nat.le_of_ble_eq_true rfl, Nat.le_of_ble_eq_true rfl⟩, hts _ wd_6, trivial⟩ (r_preS hC hW) rfl rfl hl.1 rfl (lv_room (Nat.le_of_ble_eq_true rfl)) dX1_takeClues_24 ⟨Nat.zero_le _, Nat.zero_le _⟩) (fun H locs hWn => ?_)
        replace hW := hWn
        clear hWn hc
        refine lv_aload_n hx hb dX1_takeClues_27 rfl (lv_at hl 1 rfl) ?_
        refine r_getrN hC hW 4 (Nat.le_of_ble_eq_true rfl) rfl rfl rfl (by decide) inUX2 (hC.2.2.use nf_RX1_88 rfl) rfl dX1_takeClues_28 ?_
        refine lv_iload_n hx hb dX1_takeClues_31 rfl (lv_at hl 2 rfl) ?_
        replace h := bd h
        obtain ⟨r3, hc, h⟩ := h
        refine r_calli hW (va_runSN (As := [.ref (ad 8), .int v2]) (rest := [.int r2, .int r1, .ref (ad 38)]) hC.1 (c_X6_at l D cy ad A 8 12 ⟨Nat.le_of_ble_eq_true rfl, rfl⟩ _ _ _ hc) ⟨va_cnB 2 hts (gdN wd_4) rfl rfl rfl (NL.at hC.2.2 nw_RX1_81 rfl) (hts _ wd_5) (by decide +kernel) ⟨Nat.le_of_ble_eq_true rfl, Nat.le_of_ble_eq_true rfl⟩, hts _ wd_6, trivial⟩ (r_preS hC hW) rfl rfl hl.1 rfl (lv_room (Nat.le_of_ble_eq_true rfl)) dX1_takeClues_32 ⟨Nat.zero_le _, Nat.zero_le _⟩) (fun H locs hWn => ?_)
        replace hW := hWn
        clear hWn hc
        replace h := bd h
        obtain ⟨σ4, hc, h⟩ := h
        refine r_callv hW (va_runV (As := [.int r1, .int r2, .int r3]) (rest := []) hC.1 (c_X1_takeClue l D cy ad A _ _ _ _ _ hc) (cwV 3 hts (gdV wd_96 wd_97 wd_98 wd_73 wd_95) rfl rfl rfl (by decide +kernel) ⟨Nat.le_of_ble_eq_true rfl, Nat.le_of_ble_eq_true rfl⟩) (r_preV hC hW (Nat.le_of_ble_eq_true rfl) rfl rfl) rfl rfl hl.1 rfl (lv_room (Nat.le_of_ble_eq_true rfl)) dX1_takeClues_35 ⟨Nat.zero_le _, Nat.zero_le _⟩) (fun H locs hWn => ?_)
        replace hW := hWn
        clear hWn hc
        replace h := bx h
        obtain ⟨x5, ex5, h⟩ := h
        refine lv_iinc (v := x5) (lv' := [(2, .int x5), (0, .ref (ad 38)), (1, .ref (ad 5))]) hx hb dX1_takeClues_38 hl (k := 2) rfl (by rw [ex5]; rfl) (by decide) rfl (fun ls hln => ?_)
        replace hl := hln
        clear hln ex5
        refine lv_goto (tgt := 2) hx hb dX1_takeClues_41 (by decide) ?_
        exact ih2 _ _ h _ _ hW _ (lv_sub hl [1, 2, 0] rfl)
  refine lv_iconst (v := 0) hx hb dX1_takeClues_0 (by decide) ?_
  refine lv_istore_n (lv' := [(2, .int 0), (0, .ref (ad 38)), (1, .ref (ad 5))]) hx hb dX1_takeClues_1 rfl hl (by decide) rfl (fun ls hln => ?_)
  replace hl := hln
  clear hln
  exact L2 _ _ _ h _ _ hW _ (lv_sub hl [1, 2, 0] rfl)
set_option maxHeartbeats 4000000 in
set_option maxRecDepth 100000 in
theorem c_X1_takeSights (l : Launch) (D : va_G) (cy : ClassId × ClassId) (ad : Nat → Nat) (A : Nat → Prop) (N : Nat) (σ : Hp) (σ' : Hp) (h : t_X1_takeSights N σ = some σ') : Cv l yX1_takeSights us_X1_takeSights ({ frames := 1, cells := 0, slots := 0, locals := 22 } : Room) D cy 55 shX ad A [.ref (ad 38), .ref (ad 5)] σ σ' := by
  unfold t_X1_takeSights at h
  refine Met.ofW (cc := cX1_takeSights) (maxL := 7) (ret := none) (by decide) rfl ?_
  intro p e s m args below meth c s₁ B hml hv
  obtain ⟨rfl, hP, hK, hD, hA, hN⟩ := hv
  have hx := B.exec
  have hb := B.bytes
  have hr := B.returns
  have hlocks := B.notSynchronized
  have hts : ∀ w ∈ wsU, w.before _ s = true := fun w h => atoms_spec (ws := us_X1_takeSights) B.pre w (List.mem_cons_of_mem _ h)
  have hown : s.vm.findClass RX1 = some m.cls := findClass_of_methodNamed B.named
  have hC : Cx p m c cX1_takeSights 7 s _ wsU RX1 D cy := ⟨⟨hx, hb, hml, hown, hts⟩, hK, hN⟩
  have hW : Wd D cy 55 shX ad A s.heap σ s.heap [] := ⟨hP, hD, va_S.rf, hA⟩
  have hl := lv_entry ([.ref (ad 38), .ref (ad 5)]) (n := 7) (Nat.le_of_ble_eq_true rfl)
  rw [lg_entry_eq]
  generalize (lg_sl ([.ref (ad 38), .ref (ad 5)]) ++ List.replicate (7 - (lg_sl ([.ref (ad 38), .ref (ad 5)])).length) Slot.unset).toArray = ls at hl ⊢
  have hl : lv_has ls 7 [(0, .ref (ad 38)), (1, .ref (ad 5))] := hl
  have L2 : ∀ (f : Nat) (v2 : Int32) (σ : Hp), t_X1_takeSights_2 N f v2 σ = some σ' → ∀ (H : Heap) (locs : List Loc), Wd D cy 55 shX ad A s.heap σ H locs → ∀ ls : Array Slot, lv_has ls 7 [(0, .ref (ad 38)), (1, .ref (ad 5)), (2, .int v2)] → Gv p l e us_X1_takeSights ({ frames := 1, cells := 0, slots := 0, locals := 22 } : Room) s m [.ref (ad 38), .ref (ad 5)] below meth c D cy 55 shX ad A σ' H locs (F0 m 2 ls []) := by
    intro f
    unfold t_X1_takeSights_2
    refine loopG_ind (fun (T : Int32 → Hp → Option Hp) => ∀ (v2 : Int32) (σ : Hp), T v2 σ = some σ' → ∀ (H : Heap) (locs : List Loc), Wd D cy 55 shX ad A s.heap σ H locs → ∀ ls : Array Slot, lv_has ls 7 [(0, .ref (ad 38)), (1, .ref (ad 5)), (2, .int v2)] → Gv p l e us_X1_takeSights ({ frames := 1, cells := 0, slots := 0, locals := 22 } : Room) s m [.ref (ad 38), .ref (ad 5)] below meth c D cy 55 shX ad A σ' H locs (F0 m 2 ls [])) ?_ ?_ f
    · intro v2 σ h; exact absurd h (by simp)
    · intro k2 ih2
      have J79 : ∀ (v2 : Int32) (s1 : Int32) (s2 : Int32) (σ : Hp), t_X1_takeSights_79 N k2 v2 s1 s2 σ = some σ' → ∀ (H : Heap) (locs : List Loc), Wd D cy 55 shX ad A s.heap σ H locs → ∀ ls : Array Slot, lv_has ls 7 [(0, .ref (ad 38)), (1, .ref (ad 5)), (2, .int v2)] → Gv p l e us_X1_takeSights ({ frames := 1, cells := 0, slots := 0, locals := 22 } : Room) s m [.ref (ad 38), .ref (ad 5)] below meth c D cy 55 shX ad A σ' H locs (F0 m 79 ls [.int s2, .int s1, .ref (ad 48)]) := by
        intro v2 s1 s2 σ h H locs hW ls hl
        unfold t_X1_takeSights_79 at h
        replace h := bd h
        obtain ⟨σ1, hc, h⟩ := h
        refine r_callv hW (va_runSN (As := [.ref (ad 48), .int s1, .int s2]) (rest := []) hC.1 (c_X6_put l D cy ad A 48 7 ⟨Nat.le_of_ble_eq_true rfl, rfl⟩ _ _ _ _ hc) ⟨va_cnB 3 hts (gdN wd_37) rfl rfl rfl (NL.at hC.2.2 nw_RX1_95 rfl) (hts _ wd_5) (by decide +kernel) ⟨Nat.le_of_ble_eq_true rfl, Nat.le_of_ble_eq_true rfl⟩, hts _ wd_38, trivial⟩ (r_preS hC hW) rfl rfl hl.1 rfl (lv_room (Nat.le_of_ble_eq_true rfl)) dX1_takeSights_79 ⟨Nat.zero_le _, Nat.zero_le _⟩) (fun H locs hWn => ?_)
        replace hW := hWn
        clear hWn hc
        replace h := bx h
        obtain ⟨x2, ex2, h⟩ := h
        refine lv_iinc (v := x2) (lv' := [(2, .int x2), (0, .ref (ad 38)), (1, .ref (ad 5))]) hx hb dX1_takeSights_82 hl (k := 2) rfl (by rw [ex2]; rfl) (by decide) rfl (fun ls hln => ?_)
        replace hl := hln
        clear hln ex2
        refine lv_goto (tgt := 2) hx hb dX1_takeSights_85 (by decide) ?_
        exact ih2 _ _ h _ _ hW _ (lv_sub hl [1, 2, 0] rfl)
      have J72 : ∀ (v2 : Int32) (v5 : Int32) (s1 : Int32) (σ : Hp), t_X1_takeSights_72 N k2 v2 v5 s1 σ = some σ' → ∀ (H : Heap) (locs : List Loc), Wd D cy 55 shX ad A s.heap σ H locs → ∀ ls : Array Slot, lv_has ls 7 [(0, .ref (ad 38)), (1, .ref (ad 5)), (2, .int v2), (5, .int v5)] → Gv p l e us_X1_takeSights ({ frames := 1, cells := 0, slots := 0, locals := 22 } : Room) s m [.ref (ad 38), .ref (ad 5)] below meth c D cy 55 shX ad A σ' H locs (F0 m 72 ls [.int s1, .ref (ad 48)]) := by
        intro v2 v5 s1 σ h H locs hW ls hl
        unfold t_X1_takeSights_72 at h
        refine lv_iload hx hb dX1_takeSights_72 (lv_at hl 3 rfl) ?_
        refine lv_goto (tgt := 79) hx hb dX1_takeSights_74 (by decide) ?_
        exact J79 _ _ _ _ h _ _ hW _ (lv_sub hl [0, 1, 2] rfl)
      have J42 : ∀ (v2 : Int32) (v3 : Int32) (s0 : Int32) (σ : Hp), t_X1_takeSights_42 N k2 v2 v3 s0 σ = some σ' → ∀ (H : Heap) (locs : List Loc), Wd D cy 55 shX ad A s.heap σ H locs → ∀ ls : Array Slot, lv_has ls 7 [(0, .ref (ad 38)), (1, .ref (ad 5)), (2, .int v2), (3, .int v3)] → Gv p l e us_X1_takeSights ({ frames := 1, cells := 0, slots := 0, locals := 22 } : Room) s m [.ref (ad 38), .ref (ad 5)] below meth c D cy 55 shX ad A σ' H locs (F0 m 42 ls [.int s0]) := by
        intro v2 v3 s0 σ h H locs hW ls hl
        unfold t_X1_takeSights_42 at h
        refine lv_istore (lv' := [(5, .int s0), (0, .ref (ad 38)), (1, .ref (ad 5)), (2, .int v2), (3, .int v3)]) hx hb dX1_takeSights_42 hl (by decide) rfl (fun ls hln => ?_)
        replace hl := hln
        clear hln
        refine lv_aload_n hx hb dX1_takeSights_44 rfl (lv_at hl 1 rfl) ?_
        refine r_getr hC hW 11 (Nat.le_of_ble_eq_true rfl) rfl rfl rfl (by decide) inUX1 (hts _ wd_67) rfl dX1_takeSights_45 ?_
        refine lv_iload_n hx hb dX1_takeSights_48 rfl (lv_at hl 4 rfl) ?_
        replace h := bd h
        obtain ⟨r3, hc, h⟩ := h
        refine r_calli hW (va_runSN (As := [.ref (ad 48), .int v3]) (rest := []) hC.1 (c_X6_at l D cy ad A 48 7 ⟨Nat.le_of_ble_eq_true rfl, rfl⟩ _ _ _ hc) ⟨va_cnB 2 hts (gdN wd_4) rfl rfl rfl (NL.at hC.2.2 nw_RX1_81 rfl) (hts _ wd_5) (by decide +kernel) ⟨Nat.le_of_ble_eq_true rfl, Nat.le_of_ble_eq_true rfl⟩, hts _ wd_6, trivial⟩ (r_preS hC hW) rfl rfl hl.1 rfl (lv_room (Nat.le_of_ble_eq_true rfl)) dX1_takeSights_49 ⟨Nat.zero_le _, Nat.zero_le _⟩) (fun H locs hWn => ?_)
        replace hW := hWn
        clear hWn hc
        refine lv_istore (lv' := [(6, .int r3), (5, .int s0), (0, .ref (ad 38)), (1, .ref (ad 5)), (2, .int v2), (3, .int v3)]) hx hb dX1_takeSights_52 hl (by decide) rfl (fun ls hln => ?_)
        replace hl := hln
        clear hln
        refine lv_aload_n hx hb dX1_takeSights_54 rfl (lv_at hl 2 rfl) ?_
        refine r_getr hC hW 11 (Nat.le_of_ble_eq_true rfl) rfl rfl rfl (by decide) inUX1 (hts _ wd_67) rfl dX1_takeSights_55 ?_
        refine lv_iload_n hx hb dX1_takeSights_58 rfl (lv_at hl 5 rfl) ?_
        refine lv_iload hx hb dX1_takeSights_59 (lv_at hl 0 rfl) ?_
        refine lv_iconst (v := (-1)) hx hb dX1_takeSights_61 (by decide) ?_
        refine lv_icmp_eq (tgt := 72) hx hb dX1_takeSights_62 (by decide) (fun cq => ?_) (fun cq => ?_)
        · replace h := tp cq h
          exact J72 _ _ _ _ h _ _ hW _ (lv_sub hl [2, 3, 4, 1] rfl)
        · replace h := tn cq h
          refine lv_iload hx hb dX1_takeSights_65 (lv_at hl 0 rfl) ?_
          refine lv_iload hx hb dX1_takeSights_67 (lv_at hl 1 rfl) ?_
          refine lv_icmp_ne (tgt := 77) hx hb dX1_takeSights_69 (by decide) (fun cq => ?_) (fun cq => ?_)
          · replace h := tn cq h
            refine lv_bipush (v := (-2)) hx hb dX1_takeSights_77 (by decide) ?_
            exact J79 _ _ _ _ h _ _ hW _ (lv_sub hl [2, 3, 4] rfl)
          · replace h := tp cq h
            exact J72 _ _ _ _ h _ _ hW _ (lv_sub hl [2, 3, 4, 1] rfl)
      intro v2 σ h H locs hW ls hl
      refine lv_iload_n hx hb dX1_takeSights_2 rfl (lv_at hl 2 rfl) ?_
      refine lv_aload_n hx hb dX1_takeSights_3 rfl (lv_at hl 1 rfl) ?_
      refine r_getiN hC hW 1 (Nat.le_of_ble_eq_true rfl) rfl rfl rfl (by decide) inUX2 (hC.2.2.use nf_RX1_129 rfl) rfl dX1_takeSights_4 ?_
      refine lv_icmp_ge (tgt := 88) hx hb dX1_takeSights_7 (by decide) (fun cq => ?_) (fun cq => ?_)
      · replace h := tp cq h
        exact r_vretW hC hr hlocks h hW dX1_takeSights_88
      · replace h := tn cq h
        refine lv_aload_n hx hb dX1_takeSights_10 rfl (lv_at hl 1 rfl) ?_
        refine r_getrN hC hW 5 (Nat.le_of_ble_eq_true rfl) rfl rfl rfl (by decide) inUX2 (hC.2.2.use nf_RX1_132 rfl) rfl dX1_takeSights_11 ?_
        refine lv_iload_n hx hb dX1_takeSights_14 rfl (lv_at hl 2 rfl) ?_
        replace h := bd h
        obtain ⟨r4, hc, h⟩ := h
        refine r_calli hW (va_runSN (As := [.ref (ad 9), .int v2]) (rest := []) hC.1 (c_X6_at l D cy ad A 9 7 ⟨Nat.le_of_ble_eq_true rfl, rfl⟩ _ _ _ hc) ⟨va_cnB 2 hts (gdN wd_4) rfl rfl rfl (NL.at hC.2.2 nw_RX1_81 rfl) (hts _ wd_5) (by decide +kernel) ⟨Nat.le_of_ble_eq_true rfl, Nat.le_of_ble_eq_true rfl⟩, hts _ wd_6, trivial⟩ (r_preS hC hW) rfl rfl hl.1 rfl (lv_room (Nat.le_of_ble_eq_true rfl)) dX1_takeSights_15 ⟨Nat.zero_le _, Nat.zero_le _⟩) (fun H locs hWn => ?_)
        replace hW := hWn
        clear hWn hc
        refine lv_istore_n (lv' := [(3, .int r4), (0, .ref (ad 38)), (1, .ref (ad 5)), (2, .int v2)]) hx hb dX1_takeSights_18 rfl hl (by decide) rfl (fun ls hln => ?_)
        replace hl := hln
        clear hln
        refine lv_aload_n hx hb dX1_takeSights_19 rfl (lv_at hl 2 rfl) ?_
        refine r_getrN hC hW 6 (Nat.le_of_ble_eq_true rfl) rfl rfl rfl (by decide) inUX2 (hC.2.2.use nf_RX1_135 rfl) rfl dX1_takeSights_20 ?_
        refine lv_iload_n hx hb dX1_takeSights_23 rfl (lv_at hl 3 rfl) ?_
        replace h := bd h
        obtain ⟨r5, hc, h⟩ := h
        refine r_calli hW (va_runSN (As := [.ref (ad 10), .int v2]) (rest := []) hC.1 (c_X6_at l D cy ad A 10 7 ⟨Nat.le_of_ble_eq_true rfl, rfl⟩ _ _ _ hc) ⟨va_cnB 2 hts (gdN wd_4) rfl rfl rfl (NL.at hC.2.2 nw_RX1_81 rfl) (hts _ wd_5) (by decide +kernel) ⟨Nat.le_of_ble_eq_true rfl, Nat.le_of_ble_eq_true rfl⟩, hts _ wd_6, trivial⟩ (r_preS hC hW) rfl rfl hl.1 rfl (lv_room (Nat.le_of_ble_eq_true rfl)) dX1_takeSights_24 ⟨Nat.zero_le _, Nat.zero_le _⟩) (fun H locs hWn => ?_)
        replace hW := hWn
        clear hWn hc
        refine lv_istore (lv' := [(4, .int r5), (3, .int r4), (0, .ref (ad 38)), (1, .ref (ad 5)), (2, .int v2)]) hx hb dX1_takeSights_27 hl (by decide) rfl (fun ls hln => ?_)
        replace hl := hln
        clear hln
        refine lv_iload hx hb dX1_takeSights_29 (lv_at hl 0 rfl) ?_
        refine lv_if_ne (tgt := 40) hx hb dX1_takeSights_31 (by decide) (fun cq => ?_) (fun cq => ?_)
        · replace h := tn cq h
          refine lv_iload hx hb dX1_takeSights_40 (lv_at hl 0 rfl) ?_
          exact J42 _ _ _ _ h _ _ hW _ (lv_sub hl [2, 3, 4, 1] rfl)
        · replace h := tp cq h
          refine lv_sipush (v := 1000) hx hb dX1_takeSights_34 (by decide) ?_
          refine lv_goto (tgt := 42) hx hb dX1_takeSights_37 (by decide) ?_
          exact J42 _ _ _ _ h _ _ hW _ (lv_sub hl [2, 3, 4, 1] rfl)
  refine lv_iconst (v := 0) hx hb dX1_takeSights_0 (by decide) ?_
  refine lv_istore_n (lv' := [(2, .int 0), (0, .ref (ad 38)), (1, .ref (ad 5))]) hx hb dX1_takeSights_1 rfl hl (by decide) rfl (fun ls hln => ?_)
  replace hl := hln
  clear hln
  exact L2 _ _ _ h _ _ hW _ (lv_sub hl [1, 2, 0] rfl)
set_option maxHeartbeats 4000000 in
set_option maxRecDepth 100000 in
theorem c_X3_sign (l : Launch) (D : va_G) (cy : ClassId × ClassId) (ad : Nat → Nat) (A : Nat → Prop) (p0 : Int32) (σ : Hp) (r : Int32) (h : t_X3_sign p0 σ = some r) : Ci l yX3_sign us_X3_sign ({ frames := 1, cells := 0, slots := 0, locals := 21 } : Room) D cy 55 shX ad A [.ref (ad 31), .int p0] σ r σ := by
  unfold t_X3_sign at h
  refine Met.ofW (cc := cX3_sign) (maxL := 2) (ret := (some .int)) (by decide) rfl ?_
  intro p e s m args below meth c s₁ B hml hv
  obtain ⟨rfl, hP, hK, hD, hA, hN⟩ := hv
  have hx := B.exec
  have hb := B.bytes
  have hr := B.returns
  have hlocks := B.notSynchronized
  have hts : ∀ w ∈ wsU, w.before _ s = true := fun w h => atoms_spec (ws := us_X3_sign) B.pre w (List.mem_cons_of_mem _ h)
  have hown : s.vm.findClass RX3 = some m.cls := findClass_of_methodNamed B.named
  have hC : Cx p m c cX3_sign 2 s _ wsU RX3 D cy := ⟨⟨hx, hb, hml, hown, hts⟩, hK, hN⟩
  have hW : Wd D cy 55 shX ad A s.heap σ s.heap [] := ⟨hP, hD, va_S.rf, hA⟩
  have hl := lv_entry ([.ref (ad 31), .int p0]) (n := 2) (Nat.le_of_ble_eq_true rfl)
  rw [lg_entry_eq]
  generalize (lg_sl ([.ref (ad 31), .int p0]) ++ List.replicate (2 - (lg_sl ([.ref (ad 31), .int p0])).length) Slot.unset).toArray = ls at hl ⊢
  have hl : lv_has ls 2 [(0, .ref (ad 31)), (1, .int p0)] := hl
  refine lv_aload_n hx hb dX3_sign_0 rfl (lv_at hl 0 rfl) ?_
  refine r_getr hC hW 1 (Nat.le_of_ble_eq_true rfl) rfl rfl rfl (by decide) inUX3 (hts _ wd_99) rfl dX3_sign_1 ?_
  refine lv_iload_n hx hb dX3_sign_4 rfl (lv_at hl 1 rfl) ?_
  replace h := bd h
  obtain ⟨r1, hc, h⟩ := h
  refine r_calli hW (va_runSN (As := [.ref (ad 32), .int p0]) (rest := []) hC.1 (c_X6_at l D cy ad A 32 60 ⟨Nat.le_of_ble_eq_true rfl, rfl⟩ _ _ _ hc) ⟨va_cnB 2 hts (gdN wd_4) rfl rfl rfl (NL.at hC.2.2 nw_RX3_23 rfl) (hts _ wd_5) (by decide +kernel) ⟨Nat.le_of_ble_eq_true rfl, Nat.le_of_ble_eq_true rfl⟩, hts _ wd_6, trivial⟩ (r_preS hC hW) rfl rfl hl.1 rfl (lv_room (Nat.le_of_ble_eq_true rfl)) dX3_sign_5 ⟨Nat.zero_le _, Nat.zero_le _⟩) (fun H locs hWn => ?_)
  replace hW := hWn
  clear hWn hc
  exact r_iretP hC hr hlocks h hW dX3_sign_8
set_option maxHeartbeats 4000000 in
set_option maxRecDepth 100000 in
theorem c_X6_isWithin (l : Launch) (D : va_G) (cy : ClassId × ClassId) (ad : Nat → Nat) (A : Nat → Prop) (p0 : Int32) (p1 : Int32) (p2 : Int32) (σ : Hp) (r : Int32) (h : t_X6_isWithin p0 p1 p2 = some r) : Ci l yX6_isWithin us_X6_isWithin ({ frames := 0, cells := 0, slots := 0, locals := 0 } : Room) D cy 55 shX ad A [.int p0, .int p1, .int p2] σ r σ := by
  unfold t_X6_isWithin at h
  refine Met.ofW (cc := cX6_isWithin) (maxL := 3) (ret := (some .boolean)) (by decide) rfl ?_
  intro p e s m args below meth c s₁ B hml hv
  obtain ⟨rfl, hP, hK, hD, hA, hN⟩ := hv
  have hx := B.exec
  have hb := B.bytes
  have hr := B.returns
  have hlocks := B.notSynchronized
  have hts : ∀ w ∈ wsU, w.before _ s = true := fun w h => atoms_spec (ws := us_X6_isWithin) B.pre w (List.mem_cons_of_mem _ h)
  have hown : s.vm.findClass RX6 = some m.cls := findClass_of_methodNamed B.named
  have hC : Cx p m c cX6_isWithin 3 s _ wsU RX6 D cy := ⟨⟨hx, hb, hml, hown, hts⟩, hK, hN⟩
  have hW : Wd D cy 55 shX ad A s.heap σ s.heap [] := ⟨hP, hD, va_S.rf, hA⟩
  have hl := lv_entry ([.int p0, .int p1, .int p2]) (n := 3) (Nat.le_of_ble_eq_true rfl)
  rw [lg_entry_eq]
  generalize (lg_sl ([.int p0, .int p1, .int p2]) ++ List.replicate (3 - (lg_sl ([.int p0, .int p1, .int p2])).length) Slot.unset).toArray = ls at hl ⊢
  have hl : lv_has ls 3 [(0, .int p0), (1, .int p1), (2, .int p2)] := hl
  have J14 : t_X6_isWithin_14  = some r → ∀ (H : Heap) (locs : List Loc), Wd D cy 55 shX ad A s.heap σ H locs → ∀ ls : Array Slot, lv_has ls 3 [] → Gi p l e us_X6_isWithin ({ frames := 0, cells := 0, slots := 0, locals := 0 } : Room) s m [.int p0, .int p1, .int p2] below meth c D cy 55 shX ad A r σ H locs (F0 m 14 ls []) := by
    intro  h H locs hW ls hl
    unfold t_X6_isWithin_14 at h
    refine lv_iconst (v := 0) hx hb dX6_isWithin_14 (by decide) ?_
    exact r_zretP (Or.inl rfl) hC hr hlocks h hW dX6_isWithin_15
  refine lv_iload_n hx hb dX6_isWithin_0 rfl (lv_at hl 0 rfl) ?_
  refine lv_iload_n hx hb dX6_isWithin_1 rfl (lv_at hl 1 rfl) ?_
  refine lv_icmp_lt (tgt := 14) hx hb dX6_isWithin_2 (by decide) (fun cq => ?_) (fun cq => ?_)
  · replace h := tp cq h
    exact J14  h _ _ hW _ (lv_sub hl [] rfl)
  · replace h := tn cq h
    refine lv_iload_n hx hb dX6_isWithin_5 rfl (lv_at hl 0 rfl) ?_
    refine lv_iload_n hx hb dX6_isWithin_6 rfl (lv_at hl 2 rfl) ?_
    refine lv_icmp_gt (tgt := 14) hx hb dX6_isWithin_7 (by decide) (fun cq => ?_) (fun cq => ?_)
    · replace h := tp cq h
      exact J14  h _ _ hW _ (lv_sub hl [] rfl)
    · replace h := tn cq h
      refine lv_iconst (v := 1) hx hb dX6_isWithin_10 (by decide) ?_
      refine lv_goto (tgt := 15) hx hb dX6_isWithin_11 (by decide) ?_
      exact r_zretP (Or.inr rfl) hC hr hlocks h hW dX6_isWithin_15
set_option maxHeartbeats 4000000 in
set_option maxRecDepth 100000 in
theorem c_X6_isHouseSign (l : Launch) (D : va_G) (cy : ClassId × ClassId) (ad : Nat → Nat) (A : Nat → Prop) (p0 : Int32) (σ : Hp) (r : Int32) (h : t_X6_isHouseSign p0 = some r) : Ci l yX6_isHouseSign us_X6_isHouseSign ({ frames := 1, cells := 0, slots := 0, locals := 22 } : Room) D cy 55 shX ad A [.int p0] σ r σ := by
  unfold t_X6_isHouseSign at h
  refine Met.ofW (cc := cX6_isHouseSign) (maxL := 1) (ret := (some .boolean)) (by decide) rfl ?_
  intro p e s m args below meth c s₁ B hml hv
  obtain ⟨rfl, hP, hK, hD, hA, hN⟩ := hv
  have hx := B.exec
  have hb := B.bytes
  have hr := B.returns
  have hlocks := B.notSynchronized
  have hts : ∀ w ∈ wsU, w.before _ s = true := fun w h => atoms_spec (ws := us_X6_isHouseSign) B.pre w (List.mem_cons_of_mem _ h)
  have hown : s.vm.findClass RX6 = some m.cls := findClass_of_methodNamed B.named
  have hC : Cx p m c cX6_isHouseSign 1 s _ wsU RX6 D cy := ⟨⟨hx, hb, hml, hown, hts⟩, hK, hN⟩
  have hW : Wd D cy 55 shX ad A s.heap σ s.heap [] := ⟨hP, hD, va_S.rf, hA⟩
  have hl := lv_entry ([.int p0]) (n := 1) (Nat.le_of_ble_eq_true rfl)
  rw [lg_entry_eq]
  generalize (lg_sl ([.int p0]) ++ List.replicate (1 - (lg_sl ([.int p0])).length) Slot.unset).toArray = ls at hl ⊢
  have hl : lv_has ls 1 [(0, .int p0)] := hl
  refine lv_iload_n hx hb dX6_isHouseSign_0 rfl (lv_at hl 0 rfl) ?_
  refine lv_bipush (v := 65) hx hb dX6_isHouseSign_1 (by decide) ?_
  refine lv_bipush (v := 70) hx hb dX6_isHouseSign_3 (by decide) ?_
  replace h := bd h
  obtain ⟨r1, hc, h⟩ := h
  refine r_calli hW (va_runS (As := [.int p0, .int 65, .int 70]) (rest := []) hC.1 (c_X6_isWithin l D cy ad A _ _ _ _ _ hc) (va_cwS 3 hts (gdS wd_101 wd_102 wd_5 wd_100) rfl rfl rfl (by decide +kernel) ⟨Nat.le_of_ble_eq_true rfl, Nat.le_of_ble_eq_true rfl⟩) (r_preS hC hW) rfl rfl hl.1 rfl (lv_room (Nat.le_of_ble_eq_true rfl)) dX6_isHouseSign_5 ⟨Nat.zero_le _, Nat.zero_le _⟩) (fun H locs hWn => ?_)
  replace hW := hWn
  clear hWn hc
  replace h := oz h
  obtain ⟨hz, h⟩ := h
  exact r_zretP hz hC hr hlocks h hW dX6_isHouseSign_8
set_option maxHeartbeats 4000000 in
set_option maxRecDepth 100000 in
theorem c_X1_takeWeek (l : Launch) (D : va_G) (cy : ClassId × ClassId) (ad : Nat → Nat) (A : Nat → Prop) (N : Nat) (σ : Hp) (σ' : Hp) (h : t_X1_takeWeek N σ = some σ') : Cv l yX1_takeWeek us_X1_takeWeek ({ frames := 3, cells := 0, slots := 0, locals := 67 } : Room) D cy 55 shX ad A [.ref (ad 38), .ref (ad 31), .ref (ad 2)] σ σ' := by
  unfold t_X1_takeWeek at h
  refine Met.ofW (cc := cX1_takeWeek) (maxL := 6) (ret := none) (by decide) rfl ?_
  intro p e s m args below meth c s₁ B hml hv
  obtain ⟨rfl, hP, hK, hD, hA, hN⟩ := hv
  have hx := B.exec
  have hb := B.bytes
  have hr := B.returns
  have hlocks := B.notSynchronized
  have hts : ∀ w ∈ wsU, w.before _ s = true := fun w h => atoms_spec (ws := us_X1_takeWeek) B.pre w (List.mem_cons_of_mem _ h)
  have hown : s.vm.findClass RX1 = some m.cls := findClass_of_methodNamed B.named
  have hC : Cx p m c cX1_takeWeek 6 s _ wsU RX1 D cy := ⟨⟨hx, hb, hml, hown, hts⟩, hK, hN⟩
  have hW : Wd D cy 55 shX ad A s.heap σ s.heap [] := ⟨hP, hD, va_S.rf, hA⟩
  have hl := lv_entry ([.ref (ad 38), .ref (ad 31), .ref (ad 2)]) (n := 6) (Nat.le_of_ble_eq_true rfl)
  rw [lg_entry_eq]
  generalize (lg_sl ([.ref (ad 38), .ref (ad 31), .ref (ad 2)]) ++ List.replicate (6 - (lg_sl ([.ref (ad 38), .ref (ad 31), .ref (ad 2)])).length) Slot.unset).toArray = ls at hl ⊢
  have hl : lv_has ls 6 [(0, .ref (ad 38)), (1, .ref (ad 31)), (2, .ref (ad 2))] := hl
  have L23 : ∀ (f : Nat) (v3 : Int32) (v4 : Int32) (σ : Hp), t_X1_takeWeek_23 N f v3 v4 σ = some σ' → ∀ (H : Heap) (locs : List Loc), Wd D cy 55 shX ad A s.heap σ H locs → ∀ ls : Array Slot, lv_has ls 6 [(0, .ref (ad 38)), (1, .ref (ad 31)), (3, .int v3), (4, .int v4)] → Gv p l e us_X1_takeWeek ({ frames := 3, cells := 0, slots := 0, locals := 67 } : Room) s m [.ref (ad 38), .ref (ad 31), .ref (ad 2)] below meth c D cy 55 shX ad A σ' H locs (F0 m 23 ls []) := by
    intro f
    unfold t_X1_takeWeek_23
    refine loopG_ind (fun (T : Int32 → Int32 → Hp → Option Hp) => ∀ (v3 : Int32) (v4 : Int32) (σ : Hp), T v3 v4 σ = some σ' → ∀ (H : Heap) (locs : List Loc), Wd D cy 55 shX ad A s.heap σ H locs → ∀ ls : Array Slot, lv_has ls 6 [(0, .ref (ad 38)), (1, .ref (ad 31)), (3, .int v3), (4, .int v4)] → Gv p l e us_X1_takeWeek ({ frames := 3, cells := 0, slots := 0, locals := 67 } : Room) s m [.ref (ad 38), .ref (ad 31), .ref (ad 2)] below meth c D cy 55 shX ad A σ' H locs (F0 m 23 ls [])) ?_ ?_ f
    · intro v3 v4 σ h; exact absurd h (by simp)
    · intro k23 ih23
      have J126 : ∀ (v3 : Int32) (v4 : Int32) (σ : Hp), t_X1_takeWeek_126 N k23 v3 v4 σ = some σ' → ∀ (H : Heap) (locs : List Loc), Wd D cy 55 shX ad A s.heap σ H locs → ∀ ls : Array Slot, lv_has ls 6 [(0, .ref (ad 38)), (1, .ref (ad 31)), (3, .int v3), (4, .int v4)] → Gv p l e us_X1_takeWeek ({ frames := 3, cells := 0, slots := 0, locals := 67 } : Room) s m [.ref (ad 38), .ref (ad 31), .ref (ad 2)] below meth c D cy 55 shX ad A σ' H locs (F0 m 126 ls []) := by
        intro v3 v4 σ h H locs hW ls hl
        unfold t_X1_takeWeek_126 at h
        replace h := bx h
        obtain ⟨x1, ex1, h⟩ := h
        refine lv_iinc (v := x1) (lv' := [(4, .int x1), (0, .ref (ad 38)), (1, .ref (ad 31)), (3, .int v3)]) hx hb dX1_takeWeek_126 hl (k := 3) rfl (by rw [ex1]; rfl) (by decide) rfl (fun ls hln => ?_)
        replace hl := hln
        clear hln ex1
        refine lv_goto (tgt := 23) hx hb dX1_takeWeek_129 (by decide) ?_
        exact ih23 _ _ _ h _ _ hW _ (lv_sub hl [1, 2, 3, 0] rfl)
      intro v3 v4 σ h H locs hW ls hl
      refine lv_iload hx hb dX1_takeWeek_23 (lv_at hl 3 rfl) ?_
      refine lv_aload_n hx hb dX1_takeWeek_25 rfl (lv_at hl 1 rfl) ?_
      refine r_getiN hC hW 0 (Nat.le_of_ble_eq_true rfl) rfl rfl rfl (by decide) inUX3 (hC.2.2.use nf_RX1_103 rfl) rfl dX1_takeWeek_26 ?_
      refine lv_icmp_ge (tgt := 132) hx hb dX1_takeWeek_29 (by decide) (fun cq => ?_) (fun cq => ?_)
      · replace h := tp cq h
        exact r_vretW hC hr hlocks h hW dX1_takeWeek_132
      · replace h := tn cq h
        refine lv_aload_n hx hb dX1_takeWeek_32 rfl (lv_at hl 1 rfl) ?_
        refine lv_iload hx hb dX1_takeWeek_33 (lv_at hl 3 rfl) ?_
        replace h := bd h
        obtain ⟨r2, hc, h⟩ := h
        refine r_calli hW (va_runVN (As := [.int v4]) (rest := []) hC.1 (c_X3_sign l D cy ad A _ _ _ hc) ⟨va_cnB 1 hts (gdN wd_103) rfl rfl rfl (NL.at hC.2.2 nw_RX1_106 rfl) (hts _ wd_104) (by decide +kernel) ⟨Nat.le_of_ble_eq_true rfl, Nat.le_of_ble_eq_true rfl⟩, hts _ wd_105, hts _ wd_106⟩ (r_preV hC hW (Nat.le_of_ble_eq_true rfl) rfl rfl) rfl rfl hl.1 rfl (lv_room (Nat.le_of_ble_eq_true rfl)) dX1_takeWeek_35 ⟨Nat.zero_le _, Nat.zero_le _⟩) (fun H locs hWn => ?_)
        replace hW := hWn
        clear hWn hc
        refine lv_istore (lv' := [(5, .int r2), (0, .ref (ad 38)), (1, .ref (ad 31)), (3, .int v3), (4, .int v4)]) hx hb dX1_takeWeek_38 hl (by decide) rfl (fun ls hln => ?_)
        replace hl := hln
        clear hln
        refine lv_iload hx hb dX1_takeWeek_40 (lv_at hl 0 rfl) ?_
        refine lv_bipush (v := 46) hx hb dX1_takeWeek_42 (by decide) ?_
        refine lv_icmp_ne (tgt := 65) hx hb dX1_takeWeek_44 (by decide) (fun cq => ?_) (fun cq => ?_)
        · replace h := tn cq h
          refine lv_iload hx hb dX1_takeWeek_65 (lv_at hl 0 rfl) ?_
          replace h := bd h
          obtain ⟨r3, hc, h⟩ := h
          refine r_calli hW (va_runSN (As := [.int r2]) (rest := []) hC.1 (c_X6_isHouseSign l D cy ad A _ _ _ hc) ⟨va_cnB 1 hts (gdN wd_107) rfl rfl rfl (NL.at hC.2.2 nw_RX1_116 rfl) (hts _ wd_5) (by decide +kernel) ⟨Nat.le_of_ble_eq_true rfl, Nat.le_of_ble_eq_true rfl⟩, hts _ wd_108, trivial⟩ (r_preS hC hW) rfl rfl hl.1 rfl (lv_room (Nat.le_of_ble_eq_true rfl)) dX1_takeWeek_67 ⟨Nat.zero_le _, Nat.zero_le _⟩) (fun H locs hWn => ?_)
          replace hW := hWn
          clear hWn hc
          refine lv_if_eq (tgt := 88) hx hb dX1_takeWeek_70 (by decide) (fun cq => ?_) (fun cq => ?_)
          · replace h := tp cq h
            refine lv_aload_n hx hb dX1_takeWeek_88 rfl (lv_at hl 1 rfl) ?_
            refine r_getr hC hW 12 (Nat.le_of_ble_eq_true rfl) rfl rfl rfl (by decide) inUX1 (hts _ wd_94) rfl dX1_takeWeek_89 ?_
            refine lv_iload hx hb dX1_takeWeek_92 (lv_at hl 0 rfl) ?_
            refine lv_bipush (v := 48) hx hb dX1_takeWeek_94 (by decide) ?_
            refine lv_isub hx hb dX1_takeWeek_96 ?_
            refine lv_iconst (v := 3) hx hb dX1_takeWeek_97 (by decide) ?_
            refine lv_aload_n hx hb dX1_takeWeek_98 rfl (lv_at hl 2 rfl) ?_
            replace h := bx h
            obtain ⟨x4, ex4, h⟩ := h
            refine lv_iinc (v := x4) (lv' := [(4, .int x4), (5, .int r2), (0, .ref (ad 38)), (1, .ref (ad 31)), (3, .int v3)]) hx hb dX1_takeWeek_99 hl (k := 4) rfl (by rw [ex4]; rfl) (by decide) rfl (fun ls hln => ?_)
            replace hl := hln
            clear hln ex4
            refine lv_iload hx hb dX1_takeWeek_102 (lv_at hl 0 rfl) ?_
            replace h := bd h
            obtain ⟨r5, hc, h⟩ := h
            refine r_calli hW (va_runVN (As := [.int x4]) (rest := [.int 3, .int (r2 - 48), .ref (ad 49)]) hC.1 (c_X3_sign l D cy ad A _ _ _ hc) ⟨va_cnB 1 hts (gdN wd_103) rfl rfl rfl (NL.at hC.2.2 nw_RX1_106 rfl) (hts _ wd_104) (by decide +kernel) ⟨Nat.le_of_ble_eq_true rfl, Nat.le_of_ble_eq_true rfl⟩, hts _ wd_105, hts _ wd_106⟩ (r_preV hC hW (Nat.le_of_ble_eq_true rfl) rfl rfl) rfl rfl hl.1 rfl (lv_room (Nat.le_of_ble_eq_true rfl)) dX1_takeWeek_104 ⟨Nat.zero_le _, Nat.zero_le _⟩) (fun H locs hWn => ?_)
            replace hW := hWn
            clear hWn hc
            refine lv_bipush (v := 65) hx hb dX1_takeWeek_107 (by decide) ?_
            refine lv_isub hx hb dX1_takeWeek_109 ?_
            replace h := bd h
            obtain ⟨σ6, hc, h⟩ := h
            refine r_callv hW (va_runVN (As := [.int (r2 - 48), .int 3, .int (r5 - 65)]) (rest := []) hC.1 (c_X0_setFact l D cy ad A 49 (c_coop 49 rfl) _ _ _ _ _ hc) ⟨va_cnB 3 hts (gdN wd_39) rfl rfl rfl (NL.at hC.2.2 nw_RX1_123 rfl) (hts _ wd_12) (by decide +kernel) ⟨Nat.le_of_ble_eq_true rfl, Nat.le_of_ble_eq_true rfl⟩, hts _ wd_41, hts _ wd_42⟩ (r_preV hC hW (Nat.le_of_ble_eq_true rfl) rfl rfl) rfl rfl hl.1 rfl (lv_room (Nat.le_of_ble_eq_true rfl)) dX1_takeWeek_110 ⟨Nat.zero_le _, Nat.zero_le _⟩) (fun H locs hWn => ?_)
            replace hW := hWn
            clear hWn hc
            refine lv_aload_n hx hb dX1_takeWeek_113 rfl (lv_at hl 2 rfl) ?_
            refine r_getr hC hW 10 (Nat.le_of_ble_eq_true rfl) rfl rfl rfl (by decide) inUX1 (hts _ wd_66) rfl dX1_takeWeek_114 ?_
            refine lv_iload hx hb dX1_takeWeek_117 (lv_at hl 1 rfl) ?_
            refine lv_bipush (v := 48) hx hb dX1_takeWeek_119 (by decide) ?_
            refine lv_isub hx hb dX1_takeWeek_121 ?_
            refine lv_iload_n hx hb dX1_takeWeek_122 rfl (lv_at hl 4 rfl) ?_
            replace h := bd h
            obtain ⟨σ7, hc, h⟩ := h
            refine r_callv hW (va_runSN (As := [.ref (ad 47), .int (r2 - 48), .int v3]) (rest := []) hC.1 (c_X6_put l D cy ad A 47 7 ⟨Nat.le_of_ble_eq_true rfl, rfl⟩ _ _ _ _ hc) ⟨va_cnB 3 hts (gdN wd_37) rfl rfl rfl (NL.at hC.2.2 nw_RX1_95 rfl) (hts _ wd_5) (by decide +kernel) ⟨Nat.le_of_ble_eq_true rfl, Nat.le_of_ble_eq_true rfl⟩, hts _ wd_38, trivial⟩ (r_preS hC hW) rfl rfl hl.1 rfl (lv_room (Nat.le_of_ble_eq_true rfl)) dX1_takeWeek_123 ⟨Nat.zero_le _, Nat.zero_le _⟩) (fun H locs hWn => ?_)
            replace hW := hWn
            clear hWn hc
            exact J126 _ _ _ h _ _ hW _ (lv_sub hl [2, 3, 4, 0] rfl)
          · replace h := tn cq h
            refine lv_aload_n hx hb dX1_takeWeek_73 rfl (lv_at hl 1 rfl) ?_
            refine r_getr hC hW 12 (Nat.le_of_ble_eq_true rfl) rfl rfl rfl (by decide) inUX1 (hts _ wd_94) rfl dX1_takeWeek_74 ?_
            refine lv_iload hx hb dX1_takeWeek_77 (lv_at hl 0 rfl) ?_
            refine lv_bipush (v := 65) hx hb dX1_takeWeek_79 (by decide) ?_
            refine lv_isub hx hb dX1_takeWeek_81 ?_
            replace h := bd h
            obtain ⟨σ8, hc, h⟩ := h
            refine r_callv hW (va_runVN (As := [.int (r2 - 65)]) (rest := []) hC.1 (c_X0_turnStove l D cy ad A 49 (c_coop 49 rfl) _ _ _ hc) ⟨va_cnB 1 hts (gdN wd_109) rfl rfl rfl (NL.at hC.2.2 nw_RX1_120 rfl) (hts _ wd_12) (by decide +kernel) ⟨Nat.le_of_ble_eq_true rfl, Nat.le_of_ble_eq_true rfl⟩, hts _ wd_110, hts _ wd_111⟩ (r_preV hC hW (Nat.le_of_ble_eq_true rfl) rfl rfl) rfl rfl hl.1 rfl (lv_room (Nat.le_of_ble_eq_true rfl)) dX1_takeWeek_82 ⟨Nat.zero_le _, Nat.zero_le _⟩) (fun H locs hWn => ?_)
            replace hW := hWn
            clear hWn hc
            refine lv_goto (tgt := 126) hx hb dX1_takeWeek_85 (by decide) ?_
            exact J126 _ _ _ h _ _ hW _ (lv_sub hl [1, 2, 3, 4] rfl)
        · replace h := tp cq h
          replace h := bx h
          obtain ⟨x9, ex9, h⟩ := h
          refine lv_iinc (v := x9) (lv' := [(3, .int x9), (5, .int r2), (0, .ref (ad 38)), (1, .ref (ad 31)), (4, .int v4)]) hx hb dX1_takeWeek_47 hl (k := 3) rfl (by rw [ex9]; rfl) (by decide) rfl (fun ls hln => ?_)
          replace hl := hln
          clear hln ex9
          refine lv_aload_n hx hb dX1_takeWeek_50 rfl (lv_at hl 2 rfl) ?_
          refine r_getr hC hW 12 (Nat.le_of_ble_eq_true rfl) rfl rfl rfl (by decide) inUX1 (hts _ wd_94) rfl dX1_takeWeek_51 ?_
          replace h := bd h
          obtain ⟨σ10, hc, h⟩ := h
          refine r_callv hW (va_runVN (As := []) (rest := []) hC.1 (c_X0_warm l D cy ad A N 49 (c_coop 49 rfl) _ _ hc) ⟨va_cnB 0 hts (gdN wd_43) rfl rfl rfl (NL.at hC.2.2 nw_RX1_109 rfl) (hts _ wd_12) (by decide +kernel) ⟨Nat.le_of_ble_eq_true rfl, Nat.le_of_ble_eq_true rfl⟩, hts _ wd_45, hts _ wd_46⟩ (r_preV hC hW (Nat.le_of_ble_eq_true rfl) rfl rfl) rfl rfl hl.1 rfl (lv_room (Nat.le_of_ble_eq_true rfl)) dX1_takeWeek_54 ⟨Nat.zero_le _, Nat.zero_le _⟩) (fun H locs hWn => ?_)
          replace hW := hWn
          clear hWn hc
          refine lv_aload_n hx hb dX1_takeWeek_57 rfl (lv_at hl 2 rfl) ?_
          refine lv_iload_n hx hb dX1_takeWeek_58 rfl (lv_at hl 0 rfl) ?_
          replace h := bd h
          obtain ⟨σ11, hc, h⟩ := h
          refine r_callv hW (va_runV (As := [.int x9]) (rest := []) hC.1 (c_X1_noteWarm l D cy ad A N _ _ _ hc) (cwV 1 hts (gdV wd_113 wd_114 wd_115 wd_73 wd_112) rfl rfl rfl (by decide +kernel) ⟨Nat.le_of_ble_eq_true rfl, Nat.le_of_ble_eq_true rfl⟩) (r_preV hC hW (Nat.le_of_ble_eq_true rfl) rfl rfl) rfl rfl hl.1 rfl (lv_room (Nat.le_of_ble_eq_true rfl)) dX1_takeWeek_59 ⟨Nat.zero_le _, Nat.zero_le _⟩) (fun H locs hWn => ?_)
          replace hW := hWn
          clear hWn hc
          refine lv_goto (tgt := 126) hx hb dX1_takeWeek_62 (by decide) ?_
          exact J126 _ _ _ h _ _ hW _ (lv_sub hl [2, 3, 0, 4] rfl)
  refine lv_aload_n hx hb dX1_takeWeek_0 rfl (lv_at hl 0 rfl) ?_
  refine r_getr hC hW 12 (Nat.le_of_ble_eq_true rfl) rfl rfl rfl (by decide) inUX1 (hts _ wd_94) rfl dX1_takeWeek_1 ?_
  refine lv_aload_n hx hb dX1_takeWeek_4 rfl (lv_at hl 2 rfl) ?_
  replace h := bd h
  obtain ⟨σ12, hc, h⟩ := h
  refine r_callv hW (va_runVN (As := [.ref (ad 2)]) (rest := []) hC.1 (c_X0_copyFrom l D cy ad A N 49 (c_coop 49 rfl) 2 (c_coop 2 rfl) _ _ hc) ⟨va_cnB 1 hts (gdN wd_116) rfl rfl rfl (NL.at hC.2.2 nw_RX1_99 rfl) (hts _ wd_12) (by decide +kernel) ⟨Nat.le_of_ble_eq_true rfl, Nat.le_of_ble_eq_true rfl⟩, hts _ wd_117, hts _ wd_118⟩ (r_preV hC hW (Nat.le_of_ble_eq_true rfl) rfl rfl) rfl rfl hl.1 rfl (lv_room (Nat.le_of_ble_eq_true rfl)) dX1_takeWeek_5 ⟨Nat.zero_le _, Nat.zero_le _⟩) (fun H locs hWn => ?_)
  replace hW := hWn
  clear hWn hc
  refine lv_aload_n hx hb dX1_takeWeek_8 rfl (lv_at hl 0 rfl) ?_
  refine r_getr hC hW 9 (Nat.le_of_ble_eq_true rfl) rfl rfl rfl (by decide) inUX1 (hts _ wd_65) rfl dX1_takeWeek_9 ?_
  refine lv_sipush (v := 1000) hx hb dX1_takeWeek_12 (by decide) ?_
  replace h := bd h
  obtain ⟨σ13, hc, h⟩ := h
  refine r_callv hW (va_runSN (As := [.ref (ad 46), .int 1000]) (rest := []) hC.1 (c_X6_putAll l D cy ad A N 46 7 ⟨Nat.le_of_ble_eq_true rfl, rfl⟩ _ _ _ hc) ⟨va_cnB 2 hts (gdN wd_60) rfl rfl rfl (NL.at hC.2.2 nw_RX1_65 rfl) (hts _ wd_5) (by decide +kernel) ⟨Nat.le_of_ble_eq_true rfl, Nat.le_of_ble_eq_true rfl⟩, hts _ wd_61, trivial⟩ (r_preS hC hW) rfl rfl hl.1 rfl (lv_room (Nat.le_of_ble_eq_true rfl)) dX1_takeWeek_15 ⟨Nat.zero_le _, Nat.zero_le _⟩) (fun H locs hWn => ?_)
  replace hW := hWn
  clear hWn hc
  refine lv_iconst (v := 0) hx hb dX1_takeWeek_18 (by decide) ?_
  refine lv_istore_n (lv' := [(3, .int 0), (0, .ref (ad 38)), (1, .ref (ad 31)), (2, .ref (ad 2))]) hx hb dX1_takeWeek_19 rfl hl (by decide) rfl (fun ls hln => ?_)
  replace hl := hln
  clear hln
  refine lv_iconst (v := 0) hx hb dX1_takeWeek_20 (by decide) ?_
  refine lv_istore (lv' := [(4, .int 0), (3, .int 0), (0, .ref (ad 38)), (1, .ref (ad 31)), (2, .ref (ad 2))]) hx hb dX1_takeWeek_21 hl (by decide) rfl (fun ls hln => ?_)
  replace hl := hln
  clear hln
  exact L23 _ _ _ _ h _ _ hW _ (lv_sub hl [2, 3, 1, 0] rfl)
set_option maxHeartbeats 4000000 in
set_option maxRecDepth 100000 in
theorem c_X2_addClue (l : Launch) (D : va_G) (cy : ClassId × ClassId) (ad : Nat → Nat) (A : Nat → Prop) (o : Nat) (ho : isHints o) (p0 : Int32) (p1 : Int32) (p2 : Int32) (σ : Hp) (σ' : Hp) (h : t_X2_addClue o p0 p1 p2 σ = some σ') : Cv l yX2_addClue us_X2_addClue ({ frames := 1, cells := 0, slots := 0, locals := 22 } : Room) D cy 55 shX ad A [.ref (ad o), .int p0, .int p1, .int p2] σ σ' := by
  unfold t_X2_addClue at h
  refine Met.ofW (cc := cX2_addClue) (maxL := 4) (ret := none) (by decide) rfl ?_
  intro p e s m args below meth c s₁ B hml hv
  obtain ⟨rfl, hP, hK, hD, hA, hN⟩ := hv
  have hx := B.exec
  have hb := B.bytes
  have hr := B.returns
  have hlocks := B.notSynchronized
  have hts : ∀ w ∈ wsU, w.before _ s = true := fun w h => atoms_spec (ws := us_X2_addClue) B.pre w (List.mem_cons_of_mem _ h)
  have hown : s.vm.findClass RX2 = some m.cls := findClass_of_methodNamed B.named
  have hC : Cx p m c cX2_addClue 4 s _ wsU RX2 D cy := ⟨⟨hx, hb, hml, hown, hts⟩, hK, hN⟩
  have hW : Wd D cy 55 shX ad A s.heap σ s.heap [] := ⟨hP, hD, va_S.rf, hA⟩
  have hl := lv_entry ([.ref (ad o), .int p0, .int p1, .int p2]) (n := 4) (Nat.le_of_ble_eq_true rfl)
  rw [lg_entry_eq]
  generalize (lg_sl ([.ref (ad o), .int p0, .int p1, .int p2]) ++ List.replicate (4 - (lg_sl ([.ref (ad o), .int p0, .int p1, .int p2])).length) Slot.unset).toArray = ls at hl ⊢
  have hl : lv_has ls 4 [(0, .ref (ad o)), (1, .int p0), (2, .int p1), (3, .int p2)] := hl
  refine lv_aload_n hx hb dX2_addClue_0 rfl (lv_at hl 0 rfl) ?_
  refine r_geti hC hW 0 (isHints_b ho 0 (Nat.zero_le _)) ho.2.1 rfl rfl (by decide) inUX2 (hts _ wd_119) rfl dX2_addClue_1 ?_
  refine lv_bipush (v := 12) hx hb dX2_addClue_4 (by decide) ?_
  refine lv_icmp_lt (tgt := 10) hx hb dX2_addClue_6 (by decide) (fun cq => ?_) (fun cq => ?_)
  · replace h := tp cq h
    refine lv_aload_n hx hb dX2_addClue_10 rfl (lv_at hl 0 rfl) ?_
    refine r_getr hC hW 2 (isHints_b ho 0 (Nat.zero_le _)) ho.2.1 rfl rfl (by decide) inUX2 (hts _ wd_120) rfl dX2_addClue_11 ?_
    refine lv_aload_n hx hb dX2_addClue_14 rfl (lv_at hl 0 rfl) ?_
    refine r_geti hC hW 0 (isHints_b ho 0 (Nat.zero_le _)) ho.2.1 rfl rfl (by decide) inUX2 (hts _ wd_119) rfl dX2_addClue_15 ?_
    refine lv_iload_n hx hb dX2_addClue_18 rfl (lv_at hl 1 rfl) ?_
    replace h := bd h
    obtain ⟨σ1, hc, h⟩ := h
    refine r_callv hW (va_runSN (As := [.ref (ad (o + 1)), .int (σ o 0), .int p0]) (rest := []) hC.1 (c_X6_put l D cy ad A (o + 1) 12 ⟨isHints_b ho 1 (Nat.le_of_ble_eq_true rfl), ho.2.2.1⟩ _ _ _ _ hc) ⟨va_cnB 3 hts (gdN wd_37) rfl rfl rfl (NL.at hC.2.2 nw_RX2_38 rfl) (hts _ wd_5) (by decide +kernel) ⟨Nat.le_of_ble_eq_true rfl, Nat.le_of_ble_eq_true rfl⟩, hts _ wd_38, trivial⟩ (r_preS hC hW) rfl rfl hl.1 rfl (lv_room (Nat.le_of_ble_eq_true rfl)) dX2_addClue_19 ⟨Nat.zero_le _, Nat.zero_le _⟩) (fun H locs hWn => ?_)
    replace hW := hWn
    clear hWn hc
    refine lv_aload_n hx hb dX2_addClue_22 rfl (lv_at hl 0 rfl) ?_
    refine r_getr hC hW 3 (isHints_b ho 0 (Nat.zero_le _)) ho.2.1 rfl rfl (by decide) inUX2 (hts _ wd_121) rfl dX2_addClue_23 ?_
    refine lv_aload_n hx hb dX2_addClue_26 rfl (lv_at hl 0 rfl) ?_
    refine r_geti hC hW 0 (isHints_b ho 0 (Nat.zero_le _)) ho.2.1 rfl rfl (by decide) inUX2 (hts _ wd_119) rfl dX2_addClue_27 ?_
    refine lv_iload_n hx hb dX2_addClue_30 rfl (lv_at hl 2 rfl) ?_
    replace h := bd h
    obtain ⟨σ2, hc, h⟩ := h
    refine r_callv hW (va_runSN (As := [.ref (ad (o + 2)), .int (σ1 o 0), .int p1]) (rest := []) hC.1 (c_X6_put l D cy ad A (o + 2) 12 ⟨isHints_b ho 2 (Nat.le_of_ble_eq_true rfl), ho.2.2.2.1⟩ _ _ _ _ hc) ⟨va_cnB 3 hts (gdN wd_37) rfl rfl rfl (NL.at hC.2.2 nw_RX2_38 rfl) (hts _ wd_5) (by decide +kernel) ⟨Nat.le_of_ble_eq_true rfl, Nat.le_of_ble_eq_true rfl⟩, hts _ wd_38, trivial⟩ (r_preS hC hW) rfl rfl hl.1 rfl (lv_room (Nat.le_of_ble_eq_true rfl)) dX2_addClue_31 ⟨Nat.zero_le _, Nat.zero_le _⟩) (fun H locs hWn => ?_)
    replace hW := hWn
    clear hWn hc
    refine lv_aload_n hx hb dX2_addClue_34 rfl (lv_at hl 0 rfl) ?_
    refine r_getr hC hW 4 (isHints_b ho 0 (Nat.zero_le _)) ho.2.1 rfl rfl (by decide) inUX2 (hts _ wd_122) rfl dX2_addClue_35 ?_
    refine lv_aload_n hx hb dX2_addClue_38 rfl (lv_at hl 0 rfl) ?_
    refine r_geti hC hW 0 (isHints_b ho 0 (Nat.zero_le _)) ho.2.1 rfl rfl (by decide) inUX2 (hts _ wd_119) rfl dX2_addClue_39 ?_
    refine lv_iload_n hx hb dX2_addClue_42 rfl (lv_at hl 3 rfl) ?_
    replace h := bd h
    obtain ⟨σ3, hc, h⟩ := h
    refine r_callv hW (va_runSN (As := [.ref (ad (o + 3)), .int (σ2 o 0), .int p2]) (rest := []) hC.1 (c_X6_put l D cy ad A (o + 3) 12 ⟨isHints_b ho 3 (Nat.le_of_ble_eq_true rfl), ho.2.2.2.2.1⟩ _ _ _ _ hc) ⟨va_cnB 3 hts (gdN wd_37) rfl rfl rfl (NL.at hC.2.2 nw_RX2_38 rfl) (hts _ wd_5) (by decide +kernel) ⟨Nat.le_of_ble_eq_true rfl, Nat.le_of_ble_eq_true rfl⟩, hts _ wd_38, trivial⟩ (r_preS hC hW) rfl rfl hl.1 rfl (lv_room (Nat.le_of_ble_eq_true rfl)) dX2_addClue_43 ⟨Nat.zero_le _, Nat.zero_le _⟩) (fun H locs hWn => ?_)
    replace hW := hWn
    clear hWn hc
    refine lv_aload_n hx hb dX2_addClue_46 rfl (lv_at hl 0 rfl) ?_
    refine lv_dup hx hb dX2_addClue_47 rfl ?_
    refine r_geti hC hW 0 (isHints_b ho 0 (Nat.zero_le _)) ho.2.1 rfl rfl (by decide) inUX2 (hts _ wd_119) rfl dX2_addClue_48 ?_
    refine lv_iconst (v := 1) hx hb dX2_addClue_51 (by decide) ?_
    refine lv_iadd hx hb dX2_addClue_52 ?_
    refine r_put hC hW 0 (isHints_b ho 0 (Nat.zero_le _)) ho.2.1 rfl rfl (by decide) inUX2 tyX2 tyX2_ok nmX2 (hts _ wd_119) rfl rfl ⟨rfl, rfl⟩ dX2_addClue_53 (fun σ4 eσ4 H locs hWn => ?_)
    replace h := bn eσ4 h
    replace hW := hWn
    clear hWn eσ4
    exact r_vretW hC hr hlocks h hW dX2_addClue_56
  · replace h := tn cq h
    exact r_vretW hC hr hlocks h hW dX2_addClue_9
set_option maxHeartbeats 4000000 in
set_option maxRecDepth 100000 in
theorem c_X2_addSight (l : Launch) (D : va_G) (cy : ClassId × ClassId) (ad : Nat → Nat) (A : Nat → Prop) (o : Nat) (ho : isHints o) (p0 : Int32) (p1 : Int32) (σ : Hp) (σ' : Hp) (h : t_X2_addSight o p0 p1 σ = some σ') : Cv l yX2_addSight us_X2_addSight ({ frames := 1, cells := 0, slots := 0, locals := 22 } : Room) D cy 55 shX ad A [.ref (ad o), .int p0, .int p1] σ σ' := by
  unfold t_X2_addSight at h
  refine Met.ofW (cc := cX2_addSight) (maxL := 3) (ret := none) (by decide) rfl ?_
  intro p e s m args below meth c s₁ B hml hv
  obtain ⟨rfl, hP, hK, hD, hA, hN⟩ := hv
  have hx := B.exec
  have hb := B.bytes
  have hr := B.returns
  have hlocks := B.notSynchronized
  have hts : ∀ w ∈ wsU, w.before _ s = true := fun w h => atoms_spec (ws := us_X2_addSight) B.pre w (List.mem_cons_of_mem _ h)
  have hown : s.vm.findClass RX2 = some m.cls := findClass_of_methodNamed B.named
  have hC : Cx p m c cX2_addSight 3 s _ wsU RX2 D cy := ⟨⟨hx, hb, hml, hown, hts⟩, hK, hN⟩
  have hW : Wd D cy 55 shX ad A s.heap σ s.heap [] := ⟨hP, hD, va_S.rf, hA⟩
  have hl := lv_entry ([.ref (ad o), .int p0, .int p1]) (n := 3) (Nat.le_of_ble_eq_true rfl)
  rw [lg_entry_eq]
  generalize (lg_sl ([.ref (ad o), .int p0, .int p1]) ++ List.replicate (3 - (lg_sl ([.ref (ad o), .int p0, .int p1])).length) Slot.unset).toArray = ls at hl ⊢
  have hl : lv_has ls 3 [(0, .ref (ad o)), (1, .int p0), (2, .int p1)] := hl
  refine lv_aload_n hx hb dX2_addSight_0 rfl (lv_at hl 0 rfl) ?_
  refine r_geti hC hW 1 (isHints_b ho 0 (Nat.zero_le _)) ho.2.1 rfl rfl (by decide) inUX2 (hts _ wd_123) rfl dX2_addSight_1 ?_
  refine lv_bipush (v := 7) hx hb dX2_addSight_4 (by decide) ?_
  refine lv_icmp_lt (tgt := 10) hx hb dX2_addSight_6 (by decide) (fun cq => ?_) (fun cq => ?_)
  · replace h := tp cq h
    refine lv_aload_n hx hb dX2_addSight_10 rfl (lv_at hl 0 rfl) ?_
    refine r_getr hC hW 5 (isHints_b ho 0 (Nat.zero_le _)) ho.2.1 rfl rfl (by decide) inUX2 (hts _ wd_124) rfl dX2_addSight_11 ?_
    refine lv_aload_n hx hb dX2_addSight_14 rfl (lv_at hl 0 rfl) ?_
    refine r_geti hC hW 1 (isHints_b ho 0 (Nat.zero_le _)) ho.2.1 rfl rfl (by decide) inUX2 (hts _ wd_123) rfl dX2_addSight_15 ?_
    refine lv_iload_n hx hb dX2_addSight_18 rfl (lv_at hl 1 rfl) ?_
    replace h := bd h
    obtain ⟨σ1, hc, h⟩ := h
    refine r_callv hW (va_runSN (As := [.ref (ad (o + 4)), .int (σ o 1), .int p0]) (rest := []) hC.1 (c_X6_put l D cy ad A (o + 4) 7 ⟨isHints_b ho 4 (Nat.le_of_ble_eq_true rfl), ho.2.2.2.2.2.1⟩ _ _ _ _ hc) ⟨va_cnB 3 hts (gdN wd_37) rfl rfl rfl (NL.at hC.2.2 nw_RX2_38 rfl) (hts _ wd_5) (by decide +kernel) ⟨Nat.le_of_ble_eq_true rfl, Nat.le_of_ble_eq_true rfl⟩, hts _ wd_38, trivial⟩ (r_preS hC hW) rfl rfl hl.1 rfl (lv_room (Nat.le_of_ble_eq_true rfl)) dX2_addSight_19 ⟨Nat.zero_le _, Nat.zero_le _⟩) (fun H locs hWn => ?_)
    replace hW := hWn
    clear hWn hc
    refine lv_aload_n hx hb dX2_addSight_22 rfl (lv_at hl 0 rfl) ?_
    refine r_getr hC hW 6 (isHints_b ho 0 (Nat.zero_le _)) ho.2.1 rfl rfl (by decide) inUX2 (hts _ wd_125) rfl dX2_addSight_23 ?_
    refine lv_aload_n hx hb dX2_addSight_26 rfl (lv_at hl 0 rfl) ?_
    refine r_geti hC hW 1 (isHints_b ho 0 (Nat.zero_le _)) ho.2.1 rfl rfl (by decide) inUX2 (hts _ wd_123) rfl dX2_addSight_27 ?_
    refine lv_iload_n hx hb dX2_addSight_30 rfl (lv_at hl 2 rfl) ?_
    replace h := bd h
    obtain ⟨σ2, hc, h⟩ := h
    refine r_callv hW (va_runSN (As := [.ref (ad (o + 5)), .int (σ1 o 1), .int p1]) (rest := []) hC.1 (c_X6_put l D cy ad A (o + 5) 7 ⟨isHints_b ho 5 (Nat.le_of_ble_eq_true rfl), ho.2.2.2.2.2.2⟩ _ _ _ _ hc) ⟨va_cnB 3 hts (gdN wd_37) rfl rfl rfl (NL.at hC.2.2 nw_RX2_38 rfl) (hts _ wd_5) (by decide +kernel) ⟨Nat.le_of_ble_eq_true rfl, Nat.le_of_ble_eq_true rfl⟩, hts _ wd_38, trivial⟩ (r_preS hC hW) rfl rfl hl.1 rfl (lv_room (Nat.le_of_ble_eq_true rfl)) dX2_addSight_31 ⟨Nat.zero_le _, Nat.zero_le _⟩) (fun H locs hWn => ?_)
    replace hW := hWn
    clear hWn hc
    refine lv_aload_n hx hb dX2_addSight_34 rfl (lv_at hl 0 rfl) ?_
    refine lv_dup hx hb dX2_addSight_35 rfl ?_
    refine r_geti hC hW 1 (isHints_b ho 0 (Nat.zero_le _)) ho.2.1 rfl rfl (by decide) inUX2 (hts _ wd_123) rfl dX2_addSight_36 ?_
    refine lv_iconst (v := 1) hx hb dX2_addSight_39 (by decide) ?_
    refine lv_iadd hx hb dX2_addSight_40 ?_
    refine r_put hC hW 1 (isHints_b ho 0 (Nat.zero_le _)) ho.2.1 rfl rfl (by decide) inUX2 tyX2 tyX2_ok nmX2 (hts _ wd_123) rfl rfl ⟨rfl, rfl⟩ dX2_addSight_41 (fun σ3 eσ3 H locs hWn => ?_)
    replace h := bn eσ3 h
    replace hW := hWn
    clear hWn eσ3
    exact r_vretW hC hr hlocks h hW dX2_addSight_44
  · replace h := tn cq h
    exact r_vretW hC hr hlocks h hW dX2_addSight_9
