set_option maxHeartbeats 4000000 in
set_option maxRecDepth 100000 in
theorem c_X7_hope (l : Launch) (D : va_G) (cy : ClassId × ClassId) (ad : Nat → Nat) (A : Nat → Prop) (N : Nat) (p0 : Int32) (p1 : Int32) (p2 : Int32) (σ : Hp) (r : Int64) (h : t_X7_hope N p0 p1 p2 σ = some r) : Cl l yX7_hope us_X7_hope ({ frames := 1, cells := 0, slots := 0, locals := 30 } : Room) D cy 27 shM ad A [.ref (ad 0), .int p0, .int p1, .int p2] σ r σ := by
  unfold t_X7_hope at h
  refine Met.ofW (cc := cX7_hope) (maxL := 11) (ret := (some .long)) (by decide) rfl ?_
  intro p e s m args below meth c s₁ B hml hv
  obtain ⟨rfl, hP, hK, hD, hA, hN⟩ := hv
  have hx := B.exec
  have hb := B.bytes
  have hr := B.returns
  have hlocks := B.notSynchronized
  have hts : ∀ w ∈ wsU, w.before _ s = true := fun w h => atoms_spec (ws := us_X7_hope) B.pre w (List.mem_cons_of_mem _ h)
  have hown : s.vm.findClass RX7 = some m.cls := findClass_of_methodNamed B.named
  have hC : Cx p m c cX7_hope 11 s _ wsU RX7 D cy := ⟨⟨hx, hb, hml, hown, hts⟩, hK, hN⟩
  have hW : Wd D cy 27 shM ad A s.heap σ s.heap [] := ⟨hP, hD, va_S.rf, hA⟩
  have hl := lv_entry ([.ref (ad 0), .int p0, .int p1, .int p2]) (n := 11) (Nat.le_of_ble_eq_true rfl)
  rw [lg_entry_eq]
  generalize (lg_sl ([.ref (ad 0), .int p0, .int p1, .int p2]) ++ List.replicate (11 - (lg_sl ([.ref (ad 0), .int p0, .int p1, .int p2])).length) Slot.unset).toArray = ls at hl ⊢
  have hl : lv_has ls 11 [(0, .ref (ad 0)), (1, .int p0), (2, .int p1), (3, .int p2)] := hl
  have J206 : ∀ (v3 : Int32) (v4 : Int32) (v5 : Int64), t_X7_hope_206 N v3 v4 v5 σ = some r → ∀ (H : Heap) (locs : List Loc), Wd D cy 27 shM ad A s.heap σ H locs → ∀ ls : Array Slot, lv_has ls 11 [(3, .int v3), (4, .int v4), (5, .long v5)] → Gl p l e us_X7_hope ({ frames := 1, cells := 0, slots := 0, locals := 30 } : Room) s m [.ref (ad 0), .int p0, .int p1, .int p2] below meth c D cy 27 shM ad A r σ H locs (F0 m 206 ls []) := by
    intro v3 v4 v5 h H locs hW ls hl
    unfold t_X7_hope_206 at h
    refine lv_lload hx hb dX7_hope_206 (lv_at hl 2 rfl) ?_
    refine lv_bipush (v := 10) hx hb dX7_hope_208 (by decide) ?_
    refine lv_iload hx hb dX7_hope_210 (lv_at hl 1 rfl) ?_
    replace h := bd h
    obtain ⟨r1, hc, h⟩ := h
    refine r_calll hW (va_runS (As := [.int 10, .int v4]) (rest := [.long v5]) hC.1 (c_X7_power l D cy ad A N _ _ _ _ hc) (va_cwS 2 hts (gdS wd_439 wd_440 wd_300 wd_438) rfl rfl rfl (by decide +kernel) ⟨Nat.le_of_ble_eq_true rfl, Nat.le_of_ble_eq_true rfl⟩) (r_preS hC hW) rfl rfl hl.1 rfl (lv_room (Nat.le_of_ble_eq_true rfl)) dX7_hope_212 ⟨Nat.zero_le _, Nat.zero_le _⟩) (fun H locs hWn => ?_)
    replace hW := hWn
    clear hWn hc
    refine lv_iload_n hx hb dX7_hope_215 rfl (lv_at hl 0 rfl) ?_
    replace h := bd h
    obtain ⟨r2, hc, h⟩ := h
    refine r_calll hW (va_runS (As := [.long v5, .long r1, .int v3]) (rest := []) hC.1 (c_X7_lowest l D cy ad A N _ _ _ _ _ hc) (va_cwS 3 hts (gdS wd_442 wd_443 wd_300 wd_441) rfl rfl rfl (by decide +kernel) ⟨Nat.le_of_ble_eq_true rfl, Nat.le_of_ble_eq_true rfl⟩) (r_preS hC hW) rfl rfl hl.1 rfl (lv_room (Nat.le_of_ble_eq_true rfl)) dX7_hope_216 ⟨Nat.zero_le _, Nat.zero_le _⟩) (fun H locs hWn => ?_)
    replace hW := hWn
    clear hWn hc
    exact r_lretP hC hr hlocks h hW dX7_hope_219
  have J204 : ∀ (v3 : Int32) (v4 : Int32) (s0 : Int64), t_X7_hope_204 N v3 v4 s0 σ = some r → ∀ (H : Heap) (locs : List Loc), Wd D cy 27 shM ad A s.heap σ H locs → ∀ ls : Array Slot, lv_has ls 11 [(3, .int v3), (4, .int v4)] → Gl p l e us_X7_hope ({ frames := 1, cells := 0, slots := 0, locals := 30 } : Room) s m [.ref (ad 0), .int p0, .int p1, .int p2] below meth c D cy 27 shM ad A r σ H locs (F0 m 204 ls [.long s0]) := by
    intro v3 v4 s0 h H locs hW ls hl
    unfold t_X7_hope_204 at h
    refine lv_lstore (lv' := [(5, .long s0), (3, .int v3), (4, .int v4)]) hx hb dX7_hope_204 hl (by decide) rfl (fun ls hln => ?_)
    replace hl := hln
    clear hln
    exact J206 _ _ _ h _ _ hW _ (lv_sub hl [1, 2, 0] rfl)
  have L89 : ∀ (f : Nat) (v1 : Int32) (v2 : Int32) (v3 : Int32) (v4 : Int32) (v5 : Int64) (v7 : Int32) (v8 : Int32) (v9 : Int32), t_X7_hope_89 N f v1 v2 v3 v4 v5 v7 v8 v9 σ = some r → ∀ (H : Heap) (locs : List Loc), Wd D cy 27 shM ad A s.heap σ H locs → ∀ ls : Array Slot, lv_has ls 11 [(0, .ref (ad 0)), (1, .int v1), (2, .int v2), (3, .int v3), (4, .int v4), (5, .long v5), (7, .int v7), (8, .int v8), (9, .int v9)] → Gl p l e us_X7_hope ({ frames := 1, cells := 0, slots := 0, locals := 30 } : Room) s m [.ref (ad 0), .int p0, .int p1, .int p2] below meth c D cy 27 shM ad A r σ H locs (F0 m 89 ls []) := by
    intro f
    unfold t_X7_hope_89
    refine loopG_ind (fun (T : Int32 → Int32 → Int32 → Int32 → Int64 → Int32 → Int32 → Int32 → Hp → Option Int64) => ∀ (v1 : Int32) (v2 : Int32) (v3 : Int32) (v4 : Int32) (v5 : Int64) (v7 : Int32) (v8 : Int32) (v9 : Int32), T v1 v2 v3 v4 v5 v7 v8 v9 σ = some r → ∀ (H : Heap) (locs : List Loc), Wd D cy 27 shM ad A s.heap σ H locs → ∀ ls : Array Slot, lv_has ls 11 [(0, .ref (ad 0)), (1, .int v1), (2, .int v2), (3, .int v3), (4, .int v4), (5, .long v5), (7, .int v7), (8, .int v8), (9, .int v9)] → Gl p l e us_X7_hope ({ frames := 1, cells := 0, slots := 0, locals := 30 } : Room) s m [.ref (ad 0), .int p0, .int p1, .int p2] below meth c D cy 27 shM ad A r σ H locs (F0 m 89 ls [])) ?_ ?_ f
    · intro v1 v2 v3 v4 v5 v7 v8 v9 h; exact absurd h (by simp)
    · intro k89 ih89
      have J173 : ∀ (v1 : Int32) (v2 : Int32) (v3 : Int32) (v4 : Int32) (v5 : Int64) (v7 : Int32) (v8 : Int32) (v9 : Int32), t_X7_hope_173 N k89 v1 v2 v3 v4 v5 v7 v8 v9 σ = some r → ∀ (H : Heap) (locs : List Loc), Wd D cy 27 shM ad A s.heap σ H locs → ∀ ls : Array Slot, lv_has ls 11 [(0, .ref (ad 0)), (1, .int v1), (2, .int v2), (3, .int v3), (4, .int v4), (5, .long v5), (7, .int v7), (8, .int v8), (9, .int v9)] → Gl p l e us_X7_hope ({ frames := 1, cells := 0, slots := 0, locals := 30 } : Room) s m [.ref (ad 0), .int p0, .int p1, .int p2] below meth c D cy 27 shM ad A r σ H locs (F0 m 173 ls []) := by
        intro v1 v2 v3 v4 v5 v7 v8 v9 h H locs hW ls hl
        unfold t_X7_hope_173 at h
        replace h := bx h
        obtain ⟨x3, ex3, h⟩ := h
        refine lv_iinc (v := x3) (lv' := [(9, .int x3), (0, .ref (ad 0)), (1, .int v1), (2, .int v2), (3, .int v3), (4, .int v4), (5, .long v5), (7, .int v7), (8, .int v8)]) hx hb dX7_hope_173 hl (k := 8) rfl (by rw [ex3]; rfl) (by decide) rfl (fun ls hln => ?_)
        replace hl := hln
        clear hln ex3
        refine lv_goto (tgt := 89) hx hb dX7_hope_176 (by decide) ?_
        exact ih89 _ _ _ _ _ _ _ _ h _ _ hW _ (lv_sub hl [1, 2, 3, 4, 5, 6, 7, 8, 0] rfl)
      have J128 : ∀ (v1 : Int32) (v2 : Int32) (v3 : Int32) (v4 : Int32) (v5 : Int64) (v7 : Int32) (v9 : Int32) (v10 : Int32) (s0 : Int32), t_X7_hope_128 N k89 v1 v2 v3 v4 v5 v7 v9 v10 s0 σ = some r → ∀ (H : Heap) (locs : List Loc), Wd D cy 27 shM ad A s.heap σ H locs → ∀ ls : Array Slot, lv_has ls 11 [(0, .ref (ad 0)), (1, .int v1), (2, .int v2), (3, .int v3), (4, .int v4), (5, .long v5), (7, .int v7), (9, .int v9), (10, .int v10)] → Gl p l e us_X7_hope ({ frames := 1, cells := 0, slots := 0, locals := 30 } : Room) s m [.ref (ad 0), .int p0, .int p1, .int p2] below meth c D cy 27 shM ad A r σ H locs (F0 m 128 ls [.int s0]) := by
        intro v1 v2 v3 v4 v5 v7 v9 v10 s0 h H locs hW ls hl
        unfold t_X7_hope_128 at h
        refine lv_istore (lv' := [(8, .int s0), (0, .ref (ad 0)), (1, .int v1), (2, .int v2), (3, .int v3), (4, .int v4), (5, .long v5), (7, .int v7), (9, .int v9), (10, .int v10)]) hx hb dX7_hope_128 hl (by decide) rfl (fun ls hln => ?_)
        replace hl := hln
        clear hln
        refine lv_iload hx hb dX7_hope_130 (lv_at hl 0 rfl) ?_
        refine lv_if_eq (tgt := 173) hx hb dX7_hope_132 (by decide) (fun cq => ?_) (fun cq => ?_)
        · replace h := tp cq h
          exact J173 _ _ _ _ _ _ _ _ h _ _ hW _ (lv_sub hl [1, 2, 3, 4, 5, 6, 7, 0, 8] rfl)
        · replace h := tn cq h
          refine lv_aload_n hx hb dX7_hope_135 rfl (lv_at hl 1 rfl) ?_
          refine r_getr hC hW 5 (Nat.le_of_ble_eq_true rfl) rfl rfl rfl (by decide) inUX7 (hts _ wd_295) rfl dX7_hope_136 ?_
          refine lv_iload hx hb dX7_hope_139 (lv_at hl 9 rfl) ?_
          replace h := og h
          obtain ⟨hi, h⟩ := h
          refine r_ald hC hW (Nat.le_of_ble_eq_true rfl) rfl hi dX7_hope_141 ?_
          refine lv_if_ne (tgt := 173) hx hb dX7_hope_142 (by decide) (fun cq => ?_) (fun cq => ?_)
          · replace h := tn cq h
            exact J173 _ _ _ _ _ _ _ _ h _ _ hW _ (lv_sub hl [1, 2, 3, 4, 5, 6, 7, 0, 8] rfl)
          · replace h := tp cq h
            replace h := bx h
            obtain ⟨x4, ex4, h⟩ := h
            refine lv_iinc (v := x4) (lv' := [(7, .int x4), (8, .int s0), (0, .ref (ad 0)), (1, .int v1), (2, .int v2), (3, .int v3), (4, .int v4), (5, .long v5), (9, .int v9), (10, .int v10)]) hx hb dX7_hope_145 hl (k := 7) rfl (by rw [ex4]; rfl) (by decide) rfl (fun ls hln => ?_)
            replace hl := hln
            clear hln ex4
            refine lv_lload hx hb dX7_hope_148 (lv_at hl 7 rfl) ?_
            refine lv_bipush (v := 10) hx hb dX7_hope_150 (by decide) ?_
            refine lv_iload_n hx hb dX7_hope_152 rfl (lv_at hl 3 rfl) ?_
            refine lv_isub hx hb dX7_hope_153 ?_
            refine lv_iload hx hb dX7_hope_154 (lv_at hl 0 rfl) ?_
            replace h := bd h
            obtain ⟨r5, hc, h⟩ := h
            refine r_calll hW (va_runS (As := [.int (10 - v1), .int x4]) (rest := [.long v5]) hC.1 (c_X7_power l D cy ad A N _ _ _ _ hc) (va_cwS 2 hts (gdS wd_439 wd_440 wd_300 wd_438) rfl rfl rfl (by decide +kernel) ⟨Nat.le_of_ble_eq_true rfl, Nat.le_of_ble_eq_true rfl⟩) (r_preS hC hW) rfl rfl hl.1 rfl (lv_room (Nat.le_of_ble_eq_true rfl)) dX7_hope_156 ⟨Nat.zero_le _, Nat.zero_le _⟩) (fun H locs hWn => ?_)
            replace hW := hWn
            clear hWn hc
            refine lv_bipush (v := 10) hx hb dX7_hope_159 (by decide) ?_
            refine lv_iload hx hb dX7_hope_161 (lv_at hl 6 rfl) ?_
            refine lv_iload hx hb dX7_hope_163 (lv_at hl 0 rfl) ?_
            refine lv_isub hx hb dX7_hope_165 ?_
            replace h := bd h
            obtain ⟨r6, hc, h⟩ := h
            refine r_calll hW (va_runS (As := [.int 10, .int (v4 - x4)]) (rest := [.long r5, .long v5]) hC.1 (c_X7_power l D cy ad A N _ _ _ _ hc) (va_cwS 2 hts (gdS wd_439 wd_440 wd_300 wd_438) rfl rfl rfl (by decide +kernel) ⟨Nat.le_of_ble_eq_true rfl, Nat.le_of_ble_eq_true rfl⟩) (r_preS hC hW) rfl rfl hl.1 rfl (lv_room (Nat.le_of_ble_eq_true rfl)) dX7_hope_166 ⟨Nat.zero_le _, Nat.zero_le _⟩) (fun H locs hWn => ?_)
            replace hW := hWn
            clear hWn hc
            refine lv_lmul hx hb dX7_hope_169 ?_
            refine lv_ladd hx hb dX7_hope_170 ?_
            replace h := bx h
            obtain ⟨x7, ex7, h⟩ := h
            refine topel ex7 ?_
            clear ex7
            refine lv_lstore (lv' := [(5, .long x7), (7, .int x4), (8, .int s0), (0, .ref (ad 0)), (1, .int v1), (2, .int v2), (3, .int v3), (4, .int v4), (9, .int v9), (10, .int v10)]) hx hb dX7_hope_171 hl (by decide) rfl (fun ls hln => ?_)
            replace hl := hln
            clear hln
            exact J173 _ _ _ _ _ _ _ _ h _ _ hW _ (lv_sub hl [3, 4, 5, 6, 7, 0, 1, 2, 8] rfl)
      have J127 : ∀ (v1 : Int32) (v2 : Int32) (v3 : Int32) (v4 : Int32) (v5 : Int64) (v7 : Int32) (v9 : Int32) (v10 : Int32), t_X7_hope_127 N k89 v1 v2 v3 v4 v5 v7 v9 v10 σ = some r → ∀ (H : Heap) (locs : List Loc), Wd D cy 27 shM ad A s.heap σ H locs → ∀ ls : Array Slot, lv_has ls 11 [(0, .ref (ad 0)), (1, .int v1), (2, .int v2), (3, .int v3), (4, .int v4), (5, .long v5), (7, .int v7), (9, .int v9), (10, .int v10)] → Gl p l e us_X7_hope ({ frames := 1, cells := 0, slots := 0, locals := 30 } : Room) s m [.ref (ad 0), .int p0, .int p1, .int p2] below meth c D cy 27 shM ad A r σ H locs (F0 m 127 ls []) := by
        intro v1 v2 v3 v4 v5 v7 v9 v10 h H locs hW ls hl
        unfold t_X7_hope_127 at h
        refine lv_iconst (v := 0) hx hb dX7_hope_127 (by decide) ?_
        exact J128 _ _ _ _ _ _ _ _ _ h _ _ hW _ (lv_sub hl [0, 1, 2, 3, 4, 5, 6, 7, 8] rfl)
      intro v1 v2 v3 v4 v5 v7 v8 v9 h H locs hW ls hl
      refine lv_iload hx hb dX7_hope_89 (lv_at hl 8 rfl) ?_
      refine lv_aload_n hx hb dX7_hope_91 rfl (lv_at hl 0 rfl) ?_
      refine r_geti hC hW 0 (Nat.le_of_ble_eq_true rfl) rfl rfl rfl (by decide) inUX7 (hts _ wd_294) rfl dX7_hope_92 ?_
      refine lv_icmp_ge (tgt := 179) hx hb dX7_hope_95 (by decide) (fun cq => ?_) (fun cq => ?_)
      · replace h := tp cq h
        refine lv_iload_n hx hb dX7_hope_179 rfl (lv_at hl 2 rfl) ?_
        refine lv_iconst (v := 1) hx hb dX7_hope_180 (by decide) ?_
        refine lv_icmp_ne (tgt := 206) hx hb dX7_hope_181 (by decide) (fun cq => ?_) (fun cq => ?_)
        · replace h := tn cq h
          exact J206 _ _ _ h _ _ hW _ (lv_sub hl [3, 4, 5] rfl)
        · replace h := tp cq h
          refine lv_iload hx hb dX7_hope_184 (lv_at hl 6 rfl) ?_
          refine lv_iload hx hb dX7_hope_186 (lv_at hl 4 rfl) ?_
          refine lv_icmp_ne (tgt := 203) hx hb dX7_hope_188 (by decide) (fun cq => ?_) (fun cq => ?_)
          · replace h := tn cq h
            refine lv_lconst (v := 0) hx hb dX7_hope_203 (by decide) ?_
            exact J204 _ _ _ h _ _ hW _ (lv_sub hl [3, 4] rfl)
          · replace h := tp cq h
            refine lv_bipush (v := 10) hx hb dX7_hope_191 (by decide) ?_
            refine lv_iload_n hx hb dX7_hope_193 rfl (lv_at hl 1 rfl) ?_
            refine lv_isub hx hb dX7_hope_194 ?_
            refine lv_iload hx hb dX7_hope_195 (lv_at hl 4 rfl) ?_
            replace h := bd h
            obtain ⟨r8, hc, h⟩ := h
            refine r_calll hW (va_runS (As := [.int (10 - v1), .int v4]) (rest := []) hC.1 (c_X7_power l D cy ad A N _ _ _ _ hc) (va_cwS 2 hts (gdS wd_439 wd_440 wd_300 wd_438) rfl rfl rfl (by decide +kernel) ⟨Nat.le_of_ble_eq_true rfl, Nat.le_of_ble_eq_true rfl⟩) (r_preS hC hW) rfl rfl hl.1 rfl (lv_room (Nat.le_of_ble_eq_true rfl)) dX7_hope_197 ⟨Nat.zero_le _, Nat.zero_le _⟩) (fun H locs hWn => ?_)
            replace hW := hWn
            clear hWn hc
            refine lv_goto (tgt := 204) hx hb dX7_hope_200 (by decide) ?_
            exact J204 _ _ _ h _ _ hW _ (lv_sub hl [3, 4] rfl)
      · replace h := tn cq h
        refine lv_aload_n hx hb dX7_hope_98 rfl (lv_at hl 0 rfl) ?_
        refine r_getr hC hW 6 (Nat.le_of_ble_eq_true rfl) rfl rfl rfl (by decide) inUX7 (hts _ wd_399) rfl dX7_hope_99 ?_
        refine lv_iload hx hb dX7_hope_102 (lv_at hl 8 rfl) ?_
        replace h := og h
        obtain ⟨hi, h⟩ := h
        refine r_ald hC hW (Nat.le_of_ble_eq_true rfl) rfl hi dX7_hope_104 ?_
        replace h := bx h
        obtain ⟨x9, ex9, h⟩ := h
        refine tope ex9 ?_
        clear ex9
        refine lv_istore (lv' := [(10, .int x9), (0, .ref (ad 0)), (1, .int v1), (2, .int v2), (3, .int v3), (4, .int v4), (5, .long v5), (7, .int v7), (8, .int v8), (9, .int v9)]) hx hb dX7_hope_105 hl (by decide) rfl (fun ls hln => ?_)
        replace hl := hln
        clear hln
        refine lv_iload hx hb dX7_hope_107 (lv_at hl 8 rfl) ?_
        refine lv_if_eq (tgt := 127) hx hb dX7_hope_109 (by decide) (fun cq => ?_) (fun cq => ?_)
        · replace h := tp cq h
          exact J127 _ _ _ _ _ _ _ _ h _ _ hW _ (lv_sub hl [1, 2, 3, 4, 5, 6, 7, 9, 0] rfl)
        · replace h := tn cq h
          refine lv_aload_n hx hb dX7_hope_112 rfl (lv_at hl 1 rfl) ?_
          refine r_getr hC hW 5 (Nat.le_of_ble_eq_true rfl) rfl rfl rfl (by decide) inUX7 (hts _ wd_295) rfl dX7_hope_113 ?_
          refine lv_iload hx hb dX7_hope_116 (lv_at hl 0 rfl) ?_
          replace h := og h
          obtain ⟨hi, h⟩ := h
          refine r_ald hC hW (Nat.le_of_ble_eq_true rfl) rfl hi dX7_hope_118 ?_
          refine lv_iconst (v := 2) hx hb dX7_hope_119 (by decide) ?_
          refine lv_icmp_eq (tgt := 127) hx hb dX7_hope_120 (by decide) (fun cq => ?_) (fun cq => ?_)
          · replace h := tp cq h
            exact J127 _ _ _ _ _ _ _ _ h _ _ hW _ (lv_sub hl [1, 2, 3, 4, 5, 6, 7, 9, 0] rfl)
          · replace h := tn cq h
            refine lv_iconst (v := 1) hx hb dX7_hope_123 (by decide) ?_
            refine lv_goto (tgt := 128) hx hb dX7_hope_124 (by decide) ?_
            exact J128 _ _ _ _ _ _ _ _ _ h _ _ hW _ (lv_sub hl [1, 2, 3, 4, 5, 6, 7, 9, 0] rfl)
  have L42 : ∀ (f : Nat) (v1 : Int32) (v2 : Int32) (v3 : Int32) (v4 : Int32) (v5 : Int32), t_X7_hope_42 N f v1 v2 v3 v4 v5 σ = some r → ∀ (H : Heap) (locs : List Loc), Wd D cy 27 shM ad A s.heap σ H locs → ∀ ls : Array Slot, lv_has ls 11 [(0, .ref (ad 0)), (1, .int v1), (2, .int v2), (3, .int v3), (4, .int v4), (5, .int v5)] → Gl p l e us_X7_hope ({ frames := 1, cells := 0, slots := 0, locals := 30 } : Room) s m [.ref (ad 0), .int p0, .int p1, .int p2] below meth c D cy 27 shM ad A r σ H locs (F0 m 42 ls []) := by
    intro f
    unfold t_X7_hope_42
    refine loopG_ind (fun (T : Int32 → Int32 → Int32 → Int32 → Int32 → Hp → Option Int64) => ∀ (v1 : Int32) (v2 : Int32) (v3 : Int32) (v4 : Int32) (v5 : Int32), T v1 v2 v3 v4 v5 σ = some r → ∀ (H : Heap) (locs : List Loc), Wd D cy 27 shM ad A s.heap σ H locs → ∀ ls : Array Slot, lv_has ls 11 [(0, .ref (ad 0)), (1, .int v1), (2, .int v2), (3, .int v3), (4, .int v4), (5, .int v5)] → Gl p l e us_X7_hope ({ frames := 1, cells := 0, slots := 0, locals := 30 } : Room) s m [.ref (ad 0), .int p0, .int p1, .int p2] below meth c D cy 27 shM ad A r σ H locs (F0 m 42 ls [])) ?_ ?_ f
    · intro v1 v2 v3 v4 v5 h; exact absurd h (by simp)
    · intro k42 ih42
      have J68 : ∀ (v1 : Int32) (v2 : Int32) (v3 : Int32) (v5 : Int32) (s0 : Int32) (s1 : Int32), t_X7_hope_68 N k42 v1 v2 v3 v5 s0 s1 σ = some r → ∀ (H : Heap) (locs : List Loc), Wd D cy 27 shM ad A s.heap σ H locs → ∀ ls : Array Slot, lv_has ls 11 [(0, .ref (ad 0)), (1, .int v1), (2, .int v2), (3, .int v3), (5, .int v5)] → Gl p l e us_X7_hope ({ frames := 1, cells := 0, slots := 0, locals := 30 } : Room) s m [.ref (ad 0), .int p0, .int p1, .int p2] below meth c D cy 27 shM ad A r σ H locs (F0 m 68 ls [.int s1, .int s0]) := by
        intro v1 v2 v3 v5 s0 s1 h H locs hW ls hl
        unfold t_X7_hope_68 at h
        refine lv_iadd hx hb dX7_hope_68 ?_
        replace h := bx h
        obtain ⟨x10, ex10, h⟩ := h
        refine tope ex10 ?_
        clear ex10
        refine lv_istore (lv' := [(4, .int x10), (0, .ref (ad 0)), (1, .int v1), (2, .int v2), (3, .int v3), (5, .int v5)]) hx hb dX7_hope_69 hl (by decide) rfl (fun ls hln => ?_)
        replace hl := hln
        clear hln
        replace h := bx h
        obtain ⟨x11, ex11, h⟩ := h
        refine lv_iinc (v := x11) (lv' := [(5, .int x11), (4, .int x10), (0, .ref (ad 0)), (1, .int v1), (2, .int v2), (3, .int v3)]) hx hb dX7_hope_71 hl (k := 5) rfl (by rw [ex11]; rfl) (by decide) rfl (fun ls hln => ?_)
        replace hl := hln
        clear hln ex11
        refine lv_goto (tgt := 42) hx hb dX7_hope_74 (by decide) ?_
        exact ih42 _ _ _ _ _ h _ _ hW _ (lv_sub hl [2, 3, 4, 5, 1, 0] rfl)
      intro v1 v2 v3 v4 v5 h H locs hW ls hl
      refine lv_iload hx hb dX7_hope_42 (lv_at hl 5 rfl) ?_
      refine lv_aload_n hx hb dX7_hope_44 rfl (lv_at hl 0 rfl) ?_
      refine r_geti hC hW 0 (Nat.le_of_ble_eq_true rfl) rfl rfl rfl (by decide) inUX7 (hts _ wd_294) rfl dX7_hope_45 ?_
      refine lv_icmp_ge (tgt := 77) hx hb dX7_hope_48 (by decide) (fun cq => ?_) (fun cq => ?_)
      · replace h := tp cq h
        refine lv_lconst (v := 0) hx hb dX7_hope_77 (by decide) ?_
        refine lv_lstore (lv' := [(5, .long 0), (0, .ref (ad 0)), (1, .int v1), (2, .int v2), (3, .int v3), (4, .int v4)]) hx hb dX7_hope_78 hl (by decide) rfl (fun ls hln => ?_)
        replace hl := hln
        clear hln
        refine lv_iconst (v := 0) hx hb dX7_hope_80 (by decide) ?_
        refine lv_istore (lv' := [(7, .int 0), (5, .long 0), (0, .ref (ad 0)), (1, .int v1), (2, .int v2), (3, .int v3), (4, .int v4)]) hx hb dX7_hope_81 hl (by decide) rfl (fun ls hln => ?_)
        replace hl := hln
        clear hln
        refine lv_iconst (v := 1) hx hb dX7_hope_83 (by decide) ?_
        refine lv_istore (lv' := [(8, .int 1), (7, .int 0), (5, .long 0), (0, .ref (ad 0)), (1, .int v1), (2, .int v2), (3, .int v3), (4, .int v4)]) hx hb dX7_hope_84 hl (by decide) rfl (fun ls hln => ?_)
        replace hl := hln
        clear hln
        refine lv_iconst (v := 0) hx hb dX7_hope_86 (by decide) ?_
        refine lv_istore (lv' := [(9, .int 0), (8, .int 1), (7, .int 0), (5, .long 0), (0, .ref (ad 0)), (1, .int v1), (2, .int v2), (3, .int v3), (4, .int v4)]) hx hb dX7_hope_87 hl (by decide) rfl (fun ls hln => ?_)
        replace hl := hln
        clear hln
        exact L89 _ _ _ _ _ _ _ _ _ h _ _ hW _ (lv_sub hl [4, 5, 6, 7, 8, 3, 2, 1, 0] rfl)
      · replace h := tn cq h
        refine lv_iload hx hb dX7_hope_51 (lv_at hl 4 rfl) ?_
        refine lv_aload_n hx hb dX7_hope_53 rfl (lv_at hl 0 rfl) ?_
        refine r_getr hC hW 5 (Nat.le_of_ble_eq_true rfl) rfl rfl rfl (by decide) inUX7 (hts _ wd_295) rfl dX7_hope_54 ?_
        refine lv_iload hx hb dX7_hope_57 (lv_at hl 5 rfl) ?_
        replace h := og h
        obtain ⟨hi, h⟩ := h
        refine r_ald hC hW (Nat.le_of_ble_eq_true rfl) rfl hi dX7_hope_59 ?_
        refine lv_if_ne (tgt := 67) hx hb dX7_hope_60 (by decide) (fun cq => ?_) (fun cq => ?_)
        · replace h := tn cq h
          refine lv_iconst (v := 0) hx hb dX7_hope_67 (by decide) ?_
          exact J68 _ _ _ _ _ _ h _ _ hW _ (lv_sub hl [0, 1, 2, 3, 5] rfl)
        · replace h := tp cq h
          refine lv_iconst (v := 1) hx hb dX7_hope_63 (by decide) ?_
          refine lv_goto (tgt := 68) hx hb dX7_hope_64 (by decide) ?_
          exact J68 _ _ _ _ _ _ h _ _ hW _ (lv_sub hl [0, 1, 2, 3, 5] rfl)
  refine lv_iload_n hx hb dX7_hope_0 rfl (lv_at hl 1 rfl) ?_
  refine lv_i2l hx hb dX7_hope_1 rfl ?_
  refine lv_lconst (v := 0) hx hb dX7_hope_2 (by decide) ?_
  refine lv_ldc2 hx hb hown (hts _ wd_444) dX7_hope_3 ?_
  replace h := bd h
  obtain ⟨r12, hc, h⟩ := h
  refine r_calli hW (va_runS (As := [.long (p0.toInt64), .long 0, .long (10)]) (rest := []) hC.1 (c_X7_in l D cy ad A _ _ _ _ _ hc) (va_cwS 3 hts (gdS wd_298 wd_299 wd_300 wd_297) rfl rfl rfl (by decide +kernel) ⟨Nat.le_of_ble_eq_true rfl, Nat.le_of_ble_eq_true rfl⟩) (r_preS hC hW) rfl rfl hl.1 rfl (lv_room (Nat.le_of_ble_eq_true rfl)) dX7_hope_6 ⟨Nat.zero_le _, Nat.zero_le _⟩) (fun H locs hWn => ?_)
  replace hW := hWn
  clear hWn hc
  refine lv_if_eq (tgt := 32) hx hb dX7_hope_9 (by decide) (fun cq => ?_) (fun cq => ?_)
  · replace h := tp cq h
    refine lv_ldc2 hx hb hown (hts _ wd_445) dX7_hope_32 ?_
    exact r_lretP hC hr hlocks h hW dX7_hope_35
  · replace h := tn cq h
    refine lv_iload_n hx hb dX7_hope_12 rfl (lv_at hl 2 rfl) ?_
    refine lv_i2l hx hb dX7_hope_13 rfl ?_
    refine lv_lconst (v := 0) hx hb dX7_hope_14 (by decide) ?_
    refine lv_lconst (v := 1) hx hb dX7_hope_15 (by decide) ?_
    replace h := bd h
    obtain ⟨r13, hc, h⟩ := h
    refine r_calli hW (va_runS (As := [.long (p1.toInt64), .long 0, .long 1]) (rest := []) hC.1 (c_X7_in l D cy ad A _ _ _ _ _ hc) (va_cwS 3 hts (gdS wd_298 wd_299 wd_300 wd_297) rfl rfl rfl (by decide +kernel) ⟨Nat.le_of_ble_eq_true rfl, Nat.le_of_ble_eq_true rfl⟩) (r_preS hC hW) rfl rfl hl.1 rfl (lv_room (Nat.le_of_ble_eq_true rfl)) dX7_hope_16 ⟨Nat.zero_le _, Nat.zero_le _⟩) (fun H locs hWn => ?_)
    replace hW := hWn
    clear hWn hc
    refine lv_if_eq (tgt := 32) hx hb dX7_hope_19 (by decide) (fun cq => ?_) (fun cq => ?_)
    · replace h := tp cq h
      refine lv_ldc2 hx hb hown (hts _ wd_445) dX7_hope_32 ?_
      exact r_lretP hC hr hlocks h hW dX7_hope_35
    · replace h := tn cq h
      refine lv_iload_n hx hb dX7_hope_22 rfl (lv_at hl 3 rfl) ?_
      refine lv_i2l hx hb dX7_hope_23 rfl ?_
      refine lv_lconst (v := 0) hx hb dX7_hope_24 (by decide) ?_
      refine lv_lconst (v := 1) hx hb dX7_hope_25 (by decide) ?_
      replace h := bd h
      obtain ⟨r14, hc, h⟩ := h
      refine r_calli hW (va_runS (As := [.long (p2.toInt64), .long 0, .long 1]) (rest := []) hC.1 (c_X7_in l D cy ad A _ _ _ _ _ hc) (va_cwS 3 hts (gdS wd_298 wd_299 wd_300 wd_297) rfl rfl rfl (by decide +kernel) ⟨Nat.le_of_ble_eq_true rfl, Nat.le_of_ble_eq_true rfl⟩) (r_preS hC hW) rfl rfl hl.1 rfl (lv_room (Nat.le_of_ble_eq_true rfl)) dX7_hope_26 ⟨Nat.zero_le _, Nat.zero_le _⟩) (fun H locs hWn => ?_)
      replace hW := hWn
      clear hWn hc
      refine lv_if_ne (tgt := 36) hx hb dX7_hope_29 (by decide) (fun cq => ?_) (fun cq => ?_)
      · replace h := tn cq h
        refine lv_iconst (v := 0) hx hb dX7_hope_36 (by decide) ?_
        refine lv_istore (lv' := [(4, .int 0), (0, .ref (ad 0)), (1, .int p0), (2, .int p1), (3, .int p2)]) hx hb dX7_hope_37 hl (by decide) rfl (fun ls hln => ?_)
        replace hl := hln
        clear hln
        refine lv_iconst (v := 0) hx hb dX7_hope_39 (by decide) ?_
        refine lv_istore (lv' := [(5, .int 0), (4, .int 0), (0, .ref (ad 0)), (1, .int p0), (2, .int p1), (3, .int p2)]) hx hb dX7_hope_40 hl (by decide) rfl (fun ls hln => ?_)
        replace hl := hln
        clear hln
        exact L42 _ _ _ _ _ _ h _ _ hW _ (lv_sub hl [2, 3, 4, 5, 1, 0] rfl)
      · replace h := tp cq h
        refine lv_ldc2 hx hb hown (hts _ wd_445) dX7_hope_32 ?_
        exact r_lretP hC hr hlocks h hW dX7_hope_35
set_option maxHeartbeats 4000000 in
set_option maxRecDepth 100000 in
theorem c_X7_housesWithWhole (l : Launch) (D : va_G) (cy : ClassId × ClassId) (ad : Nat → Nat) (A : Nat → Prop) (N : Nat) (σ : Hp) (r : Int32) (h : t_X7_housesWithWhole N σ = some r) : Ci l yX7_housesWithWhole us_X7_housesWithWhole ({ frames := 0, cells := 0, slots := 0, locals := 0 } : Room) D cy 27 shM ad A [.ref (ad 0)] σ r σ := by
  unfold t_X7_housesWithWhole at h
  refine Met.ofW (cc := cX7_housesWithWhole) (maxL := 3) (ret := (some .int)) (by decide) rfl ?_
  intro p e s m args below meth c s₁ B hml hv
  obtain ⟨rfl, hP, hK, hD, hA, hN⟩ := hv
  have hx := B.exec
  have hb := B.bytes
  have hr := B.returns
  have hlocks := B.notSynchronized
  have hts : ∀ w ∈ wsU, w.before _ s = true := fun w h => atoms_spec (ws := us_X7_housesWithWhole) B.pre w (List.mem_cons_of_mem _ h)
  have hown : s.vm.findClass RX7 = some m.cls := findClass_of_methodNamed B.named
  have hC : Cx p m c cX7_housesWithWhole 3 s _ wsU RX7 D cy := ⟨⟨hx, hb, hml, hown, hts⟩, hK, hN⟩
  have hW : Wd D cy 27 shM ad A s.heap σ s.heap [] := ⟨hP, hD, va_S.rf, hA⟩
  have hl := lv_entry ([.ref (ad 0)]) (n := 3) (Nat.le_of_ble_eq_true rfl)
  rw [lg_entry_eq]
  generalize (lg_sl ([.ref (ad 0)]) ++ List.replicate (3 - (lg_sl ([.ref (ad 0)])).length) Slot.unset).toArray = ls at hl ⊢
  have hl : lv_has ls 3 [(0, .ref (ad 0))] := hl
  have L4 : ∀ (f : Nat) (v1 : Int32) (v2 : Int32), t_X7_housesWithWhole_4 N f v1 v2 σ = some r → ∀ (H : Heap) (locs : List Loc), Wd D cy 27 shM ad A s.heap σ H locs → ∀ ls : Array Slot, lv_has ls 3 [(0, .ref (ad 0)), (1, .int v1), (2, .int v2)] → Gi p l e us_X7_housesWithWhole ({ frames := 0, cells := 0, slots := 0, locals := 0 } : Room) s m [.ref (ad 0)] below meth c D cy 27 shM ad A r σ H locs (F0 m 4 ls []) := by
    intro f
    unfold t_X7_housesWithWhole_4
    refine loopG_ind (fun (T : Int32 → Int32 → Hp → Option Int32) => ∀ (v1 : Int32) (v2 : Int32), T v1 v2 σ = some r → ∀ (H : Heap) (locs : List Loc), Wd D cy 27 shM ad A s.heap σ H locs → ∀ ls : Array Slot, lv_has ls 3 [(0, .ref (ad 0)), (1, .int v1), (2, .int v2)] → Gi p l e us_X7_housesWithWhole ({ frames := 0, cells := 0, slots := 0, locals := 0 } : Room) s m [.ref (ad 0)] below meth c D cy 27 shM ad A r σ H locs (F0 m 4 ls [])) ?_ ?_ f
    · intro v1 v2 h; exact absurd h (by simp)
    · intro k4 ih4
      have J34 : ∀ (v2 : Int32) (s0 : Int32) (s1 : Int32), t_X7_housesWithWhole_34 N k4 v2 s0 s1 σ = some r → ∀ (H : Heap) (locs : List Loc), Wd D cy 27 shM ad A s.heap σ H locs → ∀ ls : Array Slot, lv_has ls 3 [(0, .ref (ad 0)), (2, .int v2)] → Gi p l e us_X7_housesWithWhole ({ frames := 0, cells := 0, slots := 0, locals := 0 } : Room) s m [.ref (ad 0)] below meth c D cy 27 shM ad A r σ H locs (F0 m 34 ls [.int s1, .int s0]) := by
        intro v2 s0 s1 h H locs hW ls hl
        unfold t_X7_housesWithWhole_34 at h
        refine lv_ior hx hb dX7_housesWithWhole_34 ?_
        replace h := bx h
        obtain ⟨x1, ex1, h⟩ := h
        refine tope ex1 ?_
        clear ex1
        refine lv_istore_n (lv' := [(1, .int x1), (0, .ref (ad 0)), (2, .int v2)]) hx hb dX7_housesWithWhole_35 rfl hl (by decide) rfl (fun ls hln => ?_)
        replace hl := hln
        clear hln
        replace h := bx h
        obtain ⟨x2, ex2, h⟩ := h
        refine lv_iinc (v := x2) (lv' := [(2, .int x2), (1, .int x1), (0, .ref (ad 0))]) hx hb dX7_housesWithWhole_36 hl (k := 2) rfl (by rw [ex2]; rfl) (by decide) rfl (fun ls hln => ?_)
        replace hl := hln
        clear hln ex2
        refine lv_goto (tgt := 4) hx hb dX7_housesWithWhole_39 (by decide) ?_
        exact ih4 _ _ h _ _ hW _ (lv_sub hl [2, 1, 0] rfl)
      intro v1 v2 h H locs hW ls hl
      refine lv_iload_n hx hb dX7_housesWithWhole_4 rfl (lv_at hl 2 rfl) ?_
      refine lv_aload_n hx hb dX7_housesWithWhole_5 rfl (lv_at hl 0 rfl) ?_
      refine r_geti hC hW 0 (Nat.le_of_ble_eq_true rfl) rfl rfl rfl (by decide) inUX7 (hts _ wd_294) rfl dX7_housesWithWhole_6 ?_
      refine lv_icmp_ge (tgt := 42) hx hb dX7_housesWithWhole_9 (by decide) (fun cq => ?_) (fun cq => ?_)
      · replace h := tp cq h
        refine lv_iload_n hx hb dX7_housesWithWhole_42 rfl (lv_at hl 1 rfl) ?_
        exact r_iretP hC hr hlocks h hW dX7_housesWithWhole_43
      · replace h := tn cq h
        refine lv_iload_n hx hb dX7_housesWithWhole_12 rfl (lv_at hl 1 rfl) ?_
        refine lv_aload_n hx hb dX7_housesWithWhole_13 rfl (lv_at hl 0 rfl) ?_
        refine r_getr hC hW 5 (Nat.le_of_ble_eq_true rfl) rfl rfl rfl (by decide) inUX7 (hts _ wd_295) rfl dX7_housesWithWhole_14 ?_
        refine lv_iload_n hx hb dX7_housesWithWhole_17 rfl (lv_at hl 2 rfl) ?_
        replace h := og h
        obtain ⟨hi, h⟩ := h
        refine r_ald hC hW (Nat.le_of_ble_eq_true rfl) rfl hi dX7_housesWithWhole_18 ?_
        refine lv_if_ne (tgt := 33) hx hb dX7_housesWithWhole_19 (by decide) (fun cq => ?_) (fun cq => ?_)
        · replace h := tn cq h
          refine lv_iconst (v := 0) hx hb dX7_housesWithWhole_33 (by decide) ?_
          exact J34 _ _ _ h _ _ hW _ (lv_sub hl [0, 2] rfl)
        · replace h := tp cq h
          refine lv_iconst (v := 1) hx hb dX7_housesWithWhole_22 (by decide) ?_
          refine lv_aload_n hx hb dX7_housesWithWhole_23 rfl (lv_at hl 0 rfl) ?_
          refine r_getr hC hW 4 (Nat.le_of_ble_eq_true rfl) rfl rfl rfl (by decide) inUX7 (hts _ wd_318) rfl dX7_housesWithWhole_24 ?_
          refine lv_iload_n hx hb dX7_housesWithWhole_27 rfl (lv_at hl 2 rfl) ?_
          replace h := og h
          obtain ⟨hi, h⟩ := h
          refine r_ald hC hW (Nat.le_of_ble_eq_true rfl) rfl hi dX7_housesWithWhole_28 ?_
          refine lv_ishl hx hb dX7_housesWithWhole_29 ?_
          refine lv_goto (tgt := 34) hx hb dX7_housesWithWhole_30 (by decide) ?_
          exact J34 _ _ _ h _ _ hW _ (lv_sub hl [0, 2] rfl)
  refine lv_iconst (v := 0) hx hb dX7_housesWithWhole_0 (by decide) ?_
  refine lv_istore_n (lv' := [(1, .int 0), (0, .ref (ad 0))]) hx hb dX7_housesWithWhole_1 rfl hl (by decide) rfl (fun ls hln => ?_)
  replace hl := hln
  clear hln
  refine lv_iconst (v := 0) hx hb dX7_housesWithWhole_2 (by decide) ?_
  refine lv_istore_n (lv' := [(2, .int 0), (1, .int 0), (0, .ref (ad 0))]) hx hb dX7_housesWithWhole_3 rfl hl (by decide) rfl (fun ls hln => ?_)
  replace hl := hln
  clear hln
  exact L4 _ _ _ h _ _ hW _ (lv_sub hl [2, 1, 0] rfl)
set_option maxHeartbeats 4000000 in
set_option maxRecDepth 100000 in
theorem c_X7_pass (l : Launch) (D : va_G) (cy : ClassId × ClassId) (ad : Nat → Nat) (A : Nat → Prop) (p0 : Int32) (σ : Hp) (r : Int32) (σ' : Hp) (h : t_X7_pass p0 σ = some (r, σ')) : Ci l yX7_pass us_X7_pass ({ frames := 0, cells := 0, slots := 0, locals := 0 } : Room) D cy 27 shM ad A [.ref (ad 0), .int p0] σ r σ' := by
  unfold t_X7_pass at h
  refine Met.ofW (cc := cX7_pass) (maxL := 3) (ret := (some .int)) (by decide) rfl ?_
  intro p e s m args below meth c s₁ B hml hv
  obtain ⟨rfl, hP, hK, hD, hA, hN⟩ := hv
  have hx := B.exec
  have hb := B.bytes
  have hr := B.returns
  have hlocks := B.notSynchronized
  have hts : ∀ w ∈ wsU, w.before _ s = true := fun w h => atoms_spec (ws := us_X7_pass) B.pre w (List.mem_cons_of_mem _ h)
  have hown : s.vm.findClass RX7 = some m.cls := findClass_of_methodNamed B.named
  have hC : Cx p m c cX7_pass 3 s _ wsU RX7 D cy := ⟨⟨hx, hb, hml, hown, hts⟩, hK, hN⟩
  have hW : Wd D cy 27 shM ad A s.heap σ s.heap [] := ⟨hP, hD, va_S.rf, hA⟩
  have hl := lv_entry ([.ref (ad 0), .int p0]) (n := 3) (Nat.le_of_ble_eq_true rfl)
  rw [lg_entry_eq]
  generalize (lg_sl ([.ref (ad 0), .int p0]) ++ List.replicate (3 - (lg_sl ([.ref (ad 0), .int p0])).length) Slot.unset).toArray = ls at hl ⊢
  have hl : lv_has ls 3 [(0, .ref (ad 0)), (1, .int p0)] := hl
  have J20 : ∀ (s0 : Int32) (σ : Hp), t_X7_pass_20 s0 σ = some (r, σ') → ∀ (H : Heap) (locs : List Loc), Wd D cy 27 shM ad A s.heap σ H locs → ∀ ls : Array Slot, lv_has ls 3 [(0, .ref (ad 0))] → Gi p l e us_X7_pass ({ frames := 0, cells := 0, slots := 0, locals := 0 } : Room) s m [.ref (ad 0), .int p0] below meth c D cy 27 shM ad A r σ' H locs (F0 m 20 ls [.int s0]) := by
    intro s0 σ h H locs hW ls hl
    unfold t_X7_pass_20 at h
    refine lv_istore_n (lv' := [(2, .int s0), (0, .ref (ad 0))]) hx hb dX7_pass_20 rfl hl (by decide) rfl (fun ls hln => ?_)
    replace hl := hln
    clear hln
    refine lv_aload_n hx hb dX7_pass_21 rfl (lv_at hl 1 rfl) ?_
    refine r_getr hC hW 38 (Nat.le_of_ble_eq_true rfl) rfl rfl rfl (by decide) inUX7 (hts _ wd_446) rfl dX7_pass_22 ?_
    refine lv_aload_n hx hb dX7_pass_25 rfl (lv_at hl 1 rfl) ?_
    refine r_geti hC hW 40 (Nat.le_of_ble_eq_true rfl) rfl rfl rfl (by decide) inUX7 (hts _ wd_447) rfl dX7_pass_26 ?_
    refine lv_iload_n hx hb dX7_pass_29 rfl (lv_at hl 0 rfl) ?_
    replace h := og h
    obtain ⟨hi, h⟩ := h
    refine r_ast hC hW (Nat.le_of_ble_eq_true rfl) rfl hi dX7_pass_30 (fun σ1 eσ1 H locs hWn => ?_)
    replace h := bn eσ1 h
    replace hW := hWn
    clear hWn eσ1
    refine lv_aload_n hx hb dX7_pass_31 rfl (lv_at hl 1 rfl) ?_
    refine lv_dup hx hb dX7_pass_32 rfl ?_
    refine r_geti hC hW 40 (Nat.le_of_ble_eq_true rfl) rfl rfl rfl (by decide) inUX7 (hts _ wd_447) rfl dX7_pass_33 ?_
    refine lv_iconst (v := 1) hx hb dX7_pass_36 (by decide) ?_
    refine lv_iadd hx hb dX7_pass_37 ?_
    refine r_put hC hW 40 (Nat.le_of_ble_eq_true rfl) rfl rfl rfl (by decide) inUX7 tyX7 tyX7_ok nmX7 (hts _ wd_447) rfl rfl ⟨rfl, rfl⟩ dX7_pass_38 (fun σ2 eσ2 H locs hWn => ?_)
    replace h := bn eσ2 h
    replace hW := hWn
    clear hWn eσ2
    refine lv_iload_n hx hb dX7_pass_41 rfl (lv_at hl 0 rfl) ?_
    exact r_iretW hC hr hlocks h hW dX7_pass_42
  refine lv_aload_n hx hb dX7_pass_0 rfl (lv_at hl 0 rfl) ?_
  refine r_geti hC hW 41 (Nat.le_of_ble_eq_true rfl) rfl rfl rfl (by decide) inUX7 (hts _ wd_448) rfl dX7_pass_1 ?_
  refine lv_if_eq (tgt := 11) hx hb dX7_pass_4 (by decide) (fun cq => ?_) (fun cq => ?_)
  · replace h := tp cq h
    refine lv_aload_n hx hb dX7_pass_11 rfl (lv_at hl 0 rfl) ?_
    refine r_getr hC hW 38 (Nat.le_of_ble_eq_true rfl) rfl rfl rfl (by decide) inUX7 (hts _ wd_446) rfl dX7_pass_12 ?_
    refine lv_aload_n hx hb dX7_pass_15 rfl (lv_at hl 0 rfl) ?_
    refine r_geti hC hW 40 (Nat.le_of_ble_eq_true rfl) rfl rfl rfl (by decide) inUX7 (hts _ wd_447) rfl dX7_pass_16 ?_
    replace h := og h
    obtain ⟨hi, h⟩ := h
    refine r_ald hC hW (Nat.le_of_ble_eq_true rfl) rfl hi dX7_pass_19 ?_
    exact J20 _ _ h _ _ hW _ (lv_sub hl [0] rfl)
  · replace h := tn cq h
    refine lv_iload_n hx hb dX7_pass_7 rfl (lv_at hl 1 rfl) ?_
    refine lv_goto (tgt := 20) hx hb dX7_pass_8 (by decide) ?_
    exact J20 _ _ h _ _ hW _ (lv_sub hl [0] rfl)
set_option maxHeartbeats 4000000 in
set_option maxRecDepth 100000 in
theorem c_X7_passAll (l : Launch) (D : va_G) (cy : ClassId × ClassId) (ad : Nat → Nat) (A : Nat → Prop) (N : Nat) (σ : Hp) (σ' : Hp) (h : t_X7_passAll N σ = some σ') : Cv l yX7_passAll us_X7_passAll ({ frames := 1, cells := 0, slots := 0, locals := 22 } : Room) D cy 27 shM ad A [.ref (ad 0)] σ σ' := by
  unfold t_X7_passAll at h
  refine Met.ofW (cc := cX7_passAll) (maxL := 2) (ret := none) (by decide) rfl ?_
  intro p e s m args below meth c s₁ B hml hv
  obtain ⟨rfl, hP, hK, hD, hA, hN⟩ := hv
  have hx := B.exec
  have hb := B.bytes
  have hr := B.returns
  have hlocks := B.notSynchronized
  have hts : ∀ w ∈ wsU, w.before _ s = true := fun w h => atoms_spec (ws := us_X7_passAll) B.pre w (List.mem_cons_of_mem _ h)
  have hown : s.vm.findClass RX7 = some m.cls := findClass_of_methodNamed B.named
  have hC : Cx p m c cX7_passAll 2 s _ wsU RX7 D cy := ⟨⟨hx, hb, hml, hown, hts⟩, hK, hN⟩
  have hW : Wd D cy 27 shM ad A s.heap σ s.heap [] := ⟨hP, hD, va_S.rf, hA⟩
  have hl := lv_entry ([.ref (ad 0)]) (n := 2) (Nat.le_of_ble_eq_true rfl)
  rw [lg_entry_eq]
  generalize (lg_sl ([.ref (ad 0)]) ++ List.replicate (2 - (lg_sl ([.ref (ad 0)])).length) Slot.unset).toArray = ls at hl ⊢
  have hl : lv_has ls 2 [(0, .ref (ad 0))] := hl
  have L192 : ∀ (f : Nat) (v1 : Int32) (σ : Hp), t_X7_passAll_192 N f v1 σ = some σ' → ∀ (H : Heap) (locs : List Loc), Wd D cy 27 shM ad A s.heap σ H locs → ∀ ls : Array Slot, lv_has ls 2 [(0, .ref (ad 0)), (1, .int v1)] → Gv p l e us_X7_passAll ({ frames := 1, cells := 0, slots := 0, locals := 22 } : Room) s m [.ref (ad 0)] below meth c D cy 27 shM ad A σ' H locs (F0 m 192 ls []) := by
    intro f
    unfold t_X7_passAll_192
    refine loopG_ind (fun (T : Int32 → Hp → Option Hp) => ∀ (v1 : Int32) (σ : Hp), T v1 σ = some σ' → ∀ (H : Heap) (locs : List Loc), Wd D cy 27 shM ad A s.heap σ H locs → ∀ ls : Array Slot, lv_has ls 2 [(0, .ref (ad 0)), (1, .int v1)] → Gv p l e us_X7_passAll ({ frames := 1, cells := 0, slots := 0, locals := 22 } : Room) s m [.ref (ad 0)] below meth c D cy 27 shM ad A σ' H locs (F0 m 192 ls [])) ?_ ?_ f
    · intro v1 σ h; exact absurd h (by simp)
    · intro k192 ih192
      intro v1 σ h H locs hW ls hl
      refine lv_iload_n hx hb dX7_passAll_192 rfl (lv_at hl 1 rfl) ?_
      refine lv_bipush (v := 12) hx hb dX7_passAll_193 (by decide) ?_
      refine lv_icmp_ge (tgt := 252) hx hb dX7_passAll_195 (by decide) (fun cq => ?_) (fun cq => ?_)
      · replace h := tp cq h
        exact r_vretW hC hr hlocks h hW dX7_passAll_252
      · replace h := tn cq h
        refine lv_aload_n hx hb dX7_passAll_198 rfl (lv_at hl 0 rfl) ?_
        refine r_getr hC hW 8 (Nat.le_of_ble_eq_true rfl) rfl rfl rfl (by decide) inUX7 (hts _ wd_319) rfl dX7_passAll_199 ?_
        refine lv_iload_n hx hb dX7_passAll_202 rfl (lv_at hl 1 rfl) ?_
        refine lv_aload_n hx hb dX7_passAll_203 rfl (lv_at hl 0 rfl) ?_
        refine lv_aload_n hx hb dX7_passAll_204 rfl (lv_at hl 0 rfl) ?_
        refine r_getr hC hW 8 (Nat.le_of_ble_eq_true rfl) rfl rfl rfl (by decide) inUX7 (hts _ wd_319) rfl dX7_passAll_205 ?_
        refine lv_iload_n hx hb dX7_passAll_208 rfl (lv_at hl 1 rfl) ?_
        replace h := og h
        obtain ⟨hi, h⟩ := h
        refine r_ald hC hW (Nat.le_of_ble_eq_true rfl) rfl hi dX7_passAll_209 ?_
        replace h := ob h
        obtain ⟨r1, σ2, hc, h⟩ := h
        refine r_calli hW (va_runV (As := [.int (σ 7 v1.toNatClampNeg)]) (rest := [.int v1, .ref (ad 7)]) hC.1 (c_X7_pass l D cy ad A _ _ _ _ hc) (cwV 1 hts (gdV wd_450 wd_451 wd_452 wd_300 wd_449) rfl rfl rfl (by decide +kernel) ⟨Nat.le_of_ble_eq_true rfl, Nat.le_of_ble_eq_true rfl⟩) (r_preV hC hW (Nat.le_of_ble_eq_true rfl) rfl rfl) rfl rfl hl.1 rfl (lv_room (Nat.le_of_ble_eq_true rfl)) dX7_passAll_210 ⟨Nat.zero_le _, Nat.zero_le _⟩) (fun H locs hWn => ?_)
        replace hW := hWn
        clear hWn hc
        replace h := og h
        obtain ⟨hi, h⟩ := h
        refine r_ast hC hW (Nat.le_of_ble_eq_true rfl) rfl hi dX7_passAll_213 (fun σ3 eσ3 H locs hWn => ?_)
        replace h := bn eσ3 h
        replace hW := hWn
        clear hWn eσ3
        refine lv_aload_n hx hb dX7_passAll_214 rfl (lv_at hl 0 rfl) ?_
        refine r_getr hC hW 9 (Nat.le_of_ble_eq_true rfl) rfl rfl rfl (by decide) inUX7 (hts _ wd_322) rfl dX7_passAll_215 ?_
        refine lv_iload_n hx hb dX7_passAll_218 rfl (lv_at hl 1 rfl) ?_
        refine lv_aload_n hx hb dX7_passAll_219 rfl (lv_at hl 0 rfl) ?_
        refine lv_aload_n hx hb dX7_passAll_220 rfl (lv_at hl 0 rfl) ?_
        refine r_getr hC hW 9 (Nat.le_of_ble_eq_true rfl) rfl rfl rfl (by decide) inUX7 (hts _ wd_322) rfl dX7_passAll_221 ?_
        refine lv_iload_n hx hb dX7_passAll_224 rfl (lv_at hl 1 rfl) ?_
        replace h := og h
        obtain ⟨hi, h⟩ := h
        refine r_ald hC hW (Nat.le_of_ble_eq_true rfl) rfl hi dX7_passAll_225 ?_
        replace h := ob h
        obtain ⟨r4, σ5, hc, h⟩ := h
        refine r_calli hW (va_runV (As := [.int (σ3 8 v1.toNatClampNeg)]) (rest := [.int v1, .ref (ad 8)]) hC.1 (c_X7_pass l D cy ad A _ _ _ _ hc) (cwV 1 hts (gdV wd_450 wd_451 wd_452 wd_300 wd_449) rfl rfl rfl (by decide +kernel) ⟨Nat.le_of_ble_eq_true rfl, Nat.le_of_ble_eq_true rfl⟩) (r_preV hC hW (Nat.le_of_ble_eq_true rfl) rfl rfl) rfl rfl hl.1 rfl (lv_room (Nat.le_of_ble_eq_true rfl)) dX7_passAll_226 ⟨Nat.zero_le _, Nat.zero_le _⟩) (fun H locs hWn => ?_)
        replace hW := hWn
        clear hWn hc
        replace h := og h
        obtain ⟨hi, h⟩ := h
        refine r_ast hC hW (Nat.le_of_ble_eq_true rfl) rfl hi dX7_passAll_229 (fun σ6 eσ6 H locs hWn => ?_)
        replace h := bn eσ6 h
        replace hW := hWn
        clear hWn eσ6
        refine lv_aload_n hx hb dX7_passAll_230 rfl (lv_at hl 0 rfl) ?_
        refine r_getr hC hW 10 (Nat.le_of_ble_eq_true rfl) rfl rfl rfl (by decide) inUX7 (hts _ wd_323) rfl dX7_passAll_231 ?_
        refine lv_iload_n hx hb dX7_passAll_234 rfl (lv_at hl 1 rfl) ?_
        refine lv_aload_n hx hb dX7_passAll_235 rfl (lv_at hl 0 rfl) ?_
        refine lv_aload_n hx hb dX7_passAll_236 rfl (lv_at hl 0 rfl) ?_
        refine r_getr hC hW 10 (Nat.le_of_ble_eq_true rfl) rfl rfl rfl (by decide) inUX7 (hts _ wd_323) rfl dX7_passAll_237 ?_
        refine lv_iload_n hx hb dX7_passAll_240 rfl (lv_at hl 1 rfl) ?_
        replace h := og h
        obtain ⟨hi, h⟩ := h
        refine r_ald hC hW (Nat.le_of_ble_eq_true rfl) rfl hi dX7_passAll_241 ?_
        replace h := ob h
        obtain ⟨r7, σ8, hc, h⟩ := h
        refine r_calli hW (va_runV (As := [.int (σ6 9 v1.toNatClampNeg)]) (rest := [.int v1, .ref (ad 9)]) hC.1 (c_X7_pass l D cy ad A _ _ _ _ hc) (cwV 1 hts (gdV wd_450 wd_451 wd_452 wd_300 wd_449) rfl rfl rfl (by decide +kernel) ⟨Nat.le_of_ble_eq_true rfl, Nat.le_of_ble_eq_true rfl⟩) (r_preV hC hW (Nat.le_of_ble_eq_true rfl) rfl rfl) rfl rfl hl.1 rfl (lv_room (Nat.le_of_ble_eq_true rfl)) dX7_passAll_242 ⟨Nat.zero_le _, Nat.zero_le _⟩) (fun H locs hWn => ?_)
        replace hW := hWn
        clear hWn hc
        replace h := og h
        obtain ⟨hi, h⟩ := h
        refine r_ast hC hW (Nat.le_of_ble_eq_true rfl) rfl hi dX7_passAll_245 (fun σ9 eσ9 H locs hWn => ?_)
        replace h := bn eσ9 h
        replace hW := hWn
        clear hWn eσ9
        replace h := bx h
        obtain ⟨x10, ex10, h⟩ := h
        refine lv_iinc (v := x10) (lv' := [(1, .int x10), (0, .ref (ad 0))]) hx hb dX7_passAll_246 hl (k := 1) rfl (by rw [ex10]; rfl) (by decide) rfl (fun ls hln => ?_)
        replace hl := hln
        clear hln ex10
        refine lv_goto (tgt := 192) hx hb dX7_passAll_249 (by decide) ?_
        exact ih192 _ _ h _ _ hW _ (lv_sub hl [1, 0] rfl)
  have L50 : ∀ (f : Nat) (v1 : Int32) (σ : Hp), t_X7_passAll_50 N f v1 σ = some σ' → ∀ (H : Heap) (locs : List Loc), Wd D cy 27 shM ad A s.heap σ H locs → ∀ ls : Array Slot, lv_has ls 2 [(0, .ref (ad 0)), (1, .int v1)] → Gv p l e us_X7_passAll ({ frames := 1, cells := 0, slots := 0, locals := 22 } : Room) s m [.ref (ad 0)] below meth c D cy 27 shM ad A σ' H locs (F0 m 50 ls []) := by
    intro f
    unfold t_X7_passAll_50
    refine loopG_ind (fun (T : Int32 → Hp → Option Hp) => ∀ (v1 : Int32) (σ : Hp), T v1 σ = some σ' → ∀ (H : Heap) (locs : List Loc), Wd D cy 27 shM ad A s.heap σ H locs → ∀ ls : Array Slot, lv_has ls 2 [(0, .ref (ad 0)), (1, .int v1)] → Gv p l e us_X7_passAll ({ frames := 1, cells := 0, slots := 0, locals := 22 } : Room) s m [.ref (ad 0)] below meth c D cy 27 shM ad A σ' H locs (F0 m 50 ls [])) ?_ ?_ f
    · intro v1 σ h; exact absurd h (by simp)
    · intro k50 ih50
      intro v1 σ h H locs hW ls hl
      refine lv_iload_n hx hb dX7_passAll_50 rfl (lv_at hl 1 rfl) ?_
      refine lv_bipush (v := 7) hx hb dX7_passAll_51 (by decide) ?_
      refine lv_icmp_ge (tgt := 190) hx hb dX7_passAll_53 (by decide) (fun cq => ?_) (fun cq => ?_)
      · replace h := tp cq h
        refine lv_iconst (v := 0) hx hb dX7_passAll_190 (by decide) ?_
        refine lv_istore_n (lv' := [(1, .int 0), (0, .ref (ad 0))]) hx hb dX7_passAll_191 rfl hl (by decide) rfl (fun ls hln => ?_)
        replace hl := hln
        clear hln
        exact L192 _ _ _ h _ _ hW _ (lv_sub hl [1, 0] rfl)
      · replace h := tn cq h
        refine lv_aload_n hx hb dX7_passAll_56 rfl (lv_at hl 0 rfl) ?_
        refine r_getr hC hW 1 (Nat.le_of_ble_eq_true rfl) rfl rfl rfl (by decide) inUX7 (hts _ wd_325) rfl dX7_passAll_57 ?_
        refine lv_iload_n hx hb dX7_passAll_60 rfl (lv_at hl 1 rfl) ?_
        refine lv_aload_n hx hb dX7_passAll_61 rfl (lv_at hl 0 rfl) ?_
        refine lv_aload_n hx hb dX7_passAll_62 rfl (lv_at hl 0 rfl) ?_
        refine r_getr hC hW 1 (Nat.le_of_ble_eq_true rfl) rfl rfl rfl (by decide) inUX7 (hts _ wd_325) rfl dX7_passAll_63 ?_
        refine lv_iload_n hx hb dX7_passAll_66 rfl (lv_at hl 1 rfl) ?_
        replace h := og h
        obtain ⟨hi, h⟩ := h
        refine r_ald hC hW (Nat.le_of_ble_eq_true rfl) rfl hi dX7_passAll_67 ?_
        replace h := ob h
        obtain ⟨r11, σ12, hc, h⟩ := h
        refine r_calli hW (va_runV (As := [.int (σ 1 v1.toNatClampNeg)]) (rest := [.int v1, .ref (ad 1)]) hC.1 (c_X7_pass l D cy ad A _ _ _ _ hc) (cwV 1 hts (gdV wd_450 wd_451 wd_452 wd_300 wd_449) rfl rfl rfl (by decide +kernel) ⟨Nat.le_of_ble_eq_true rfl, Nat.le_of_ble_eq_true rfl⟩) (r_preV hC hW (Nat.le_of_ble_eq_true rfl) rfl rfl) rfl rfl hl.1 rfl (lv_room (Nat.le_of_ble_eq_true rfl)) dX7_passAll_68 ⟨Nat.zero_le _, Nat.zero_le _⟩) (fun H locs hWn => ?_)
        replace hW := hWn
        clear hWn hc
        replace h := og h
        obtain ⟨hi, h⟩ := h
        refine r_ast hC hW (Nat.le_of_ble_eq_true rfl) rfl hi dX7_passAll_71 (fun σ13 eσ13 H locs hWn => ?_)
        replace h := bn eσ13 h
        replace hW := hWn
        clear hWn eσ13
        refine lv_aload_n hx hb dX7_passAll_72 rfl (lv_at hl 0 rfl) ?_
        refine r_getr hC hW 2 (Nat.le_of_ble_eq_true rfl) rfl rfl rfl (by decide) inUX7 (hts _ wd_317) rfl dX7_passAll_73 ?_
        refine lv_iload_n hx hb dX7_passAll_76 rfl (lv_at hl 1 rfl) ?_
        refine lv_aload_n hx hb dX7_passAll_77 rfl (lv_at hl 0 rfl) ?_
        refine lv_aload_n hx hb dX7_passAll_78 rfl (lv_at hl 0 rfl) ?_
        refine r_getr hC hW 2 (Nat.le_of_ble_eq_true rfl) rfl rfl rfl (by decide) inUX7 (hts _ wd_317) rfl dX7_passAll_79 ?_
        refine lv_iload_n hx hb dX7_passAll_82 rfl (lv_at hl 1 rfl) ?_
        replace h := og h
        obtain ⟨hi, h⟩ := h
        refine r_ald hC hW (Nat.le_of_ble_eq_true rfl) rfl hi dX7_passAll_83 ?_
        replace h := ob h
        obtain ⟨r14, σ15, hc, h⟩ := h
        refine r_calli hW (va_runV (As := [.int (σ13 2 v1.toNatClampNeg)]) (rest := [.int v1, .ref (ad 2)]) hC.1 (c_X7_pass l D cy ad A _ _ _ _ hc) (cwV 1 hts (gdV wd_450 wd_451 wd_452 wd_300 wd_449) rfl rfl rfl (by decide +kernel) ⟨Nat.le_of_ble_eq_true rfl, Nat.le_of_ble_eq_true rfl⟩) (r_preV hC hW (Nat.le_of_ble_eq_true rfl) rfl rfl) rfl rfl hl.1 rfl (lv_room (Nat.le_of_ble_eq_true rfl)) dX7_passAll_84 ⟨Nat.zero_le _, Nat.zero_le _⟩) (fun H locs hWn => ?_)
        replace hW := hWn
        clear hWn hc
        replace h := og h
        obtain ⟨hi, h⟩ := h
        refine r_ast hC hW (Nat.le_of_ble_eq_true rfl) rfl hi dX7_passAll_87 (fun σ16 eσ16 H locs hWn => ?_)
        replace h := bn eσ16 h
        replace hW := hWn
        clear hWn eσ16
        refine lv_aload_n hx hb dX7_passAll_88 rfl (lv_at hl 0 rfl) ?_
        refine r_getr hC hW 3 (Nat.le_of_ble_eq_true rfl) rfl rfl rfl (by decide) inUX7 (hts _ wd_398) rfl dX7_passAll_89 ?_
        refine lv_iload_n hx hb dX7_passAll_92 rfl (lv_at hl 1 rfl) ?_
        refine lv_aload_n hx hb dX7_passAll_93 rfl (lv_at hl 0 rfl) ?_
        refine lv_aload_n hx hb dX7_passAll_94 rfl (lv_at hl 0 rfl) ?_
        refine r_getr hC hW 3 (Nat.le_of_ble_eq_true rfl) rfl rfl rfl (by decide) inUX7 (hts _ wd_398) rfl dX7_passAll_95 ?_
        refine lv_iload_n hx hb dX7_passAll_98 rfl (lv_at hl 1 rfl) ?_
        replace h := og h
        obtain ⟨hi, h⟩ := h
        refine r_ald hC hW (Nat.le_of_ble_eq_true rfl) rfl hi dX7_passAll_99 ?_
        replace h := ob h
        obtain ⟨r17, σ18, hc, h⟩ := h
        refine r_calli hW (va_runV (As := [.int (σ16 3 v1.toNatClampNeg)]) (rest := [.int v1, .ref (ad 3)]) hC.1 (c_X7_pass l D cy ad A _ _ _ _ hc) (cwV 1 hts (gdV wd_450 wd_451 wd_452 wd_300 wd_449) rfl rfl rfl (by decide +kernel) ⟨Nat.le_of_ble_eq_true rfl, Nat.le_of_ble_eq_true rfl⟩) (r_preV hC hW (Nat.le_of_ble_eq_true rfl) rfl rfl) rfl rfl hl.1 rfl (lv_room (Nat.le_of_ble_eq_true rfl)) dX7_passAll_100 ⟨Nat.zero_le _, Nat.zero_le _⟩) (fun H locs hWn => ?_)
        replace hW := hWn
        clear hWn hc
        replace h := og h
        obtain ⟨hi, h⟩ := h
        refine r_ast hC hW (Nat.le_of_ble_eq_true rfl) rfl hi dX7_passAll_103 (fun σ19 eσ19 H locs hWn => ?_)
        replace h := bn eσ19 h
        replace hW := hWn
        clear hWn eσ19
        refine lv_aload_n hx hb dX7_passAll_104 rfl (lv_at hl 0 rfl) ?_
        refine r_getr hC hW 4 (Nat.le_of_ble_eq_true rfl) rfl rfl rfl (by decide) inUX7 (hts _ wd_318) rfl dX7_passAll_105 ?_
        refine lv_iload_n hx hb dX7_passAll_108 rfl (lv_at hl 1 rfl) ?_
        refine lv_aload_n hx hb dX7_passAll_109 rfl (lv_at hl 0 rfl) ?_
        refine lv_aload_n hx hb dX7_passAll_110 rfl (lv_at hl 0 rfl) ?_
        refine r_getr hC hW 4 (Nat.le_of_ble_eq_true rfl) rfl rfl rfl (by decide) inUX7 (hts _ wd_318) rfl dX7_passAll_111 ?_
        refine lv_iload_n hx hb dX7_passAll_114 rfl (lv_at hl 1 rfl) ?_
        replace h := og h
        obtain ⟨hi, h⟩ := h
        refine r_ald hC hW (Nat.le_of_ble_eq_true rfl) rfl hi dX7_passAll_115 ?_
        replace h := ob h
        obtain ⟨r20, σ21, hc, h⟩ := h
        refine r_calli hW (va_runV (As := [.int (σ19 4 v1.toNatClampNeg)]) (rest := [.int v1, .ref (ad 4)]) hC.1 (c_X7_pass l D cy ad A _ _ _ _ hc) (cwV 1 hts (gdV wd_450 wd_451 wd_452 wd_300 wd_449) rfl rfl rfl (by decide +kernel) ⟨Nat.le_of_ble_eq_true rfl, Nat.le_of_ble_eq_true rfl⟩) (r_preV hC hW (Nat.le_of_ble_eq_true rfl) rfl rfl) rfl rfl hl.1 rfl (lv_room (Nat.le_of_ble_eq_true rfl)) dX7_passAll_116 ⟨Nat.zero_le _, Nat.zero_le _⟩) (fun H locs hWn => ?_)
        replace hW := hWn
        clear hWn hc
        replace h := og h
        obtain ⟨hi, h⟩ := h
        refine r_ast hC hW (Nat.le_of_ble_eq_true rfl) rfl hi dX7_passAll_119 (fun σ22 eσ22 H locs hWn => ?_)
        replace h := bn eσ22 h
        replace hW := hWn
        clear hWn eσ22
        refine lv_aload_n hx hb dX7_passAll_120 rfl (lv_at hl 0 rfl) ?_
        refine r_getr hC hW 5 (Nat.le_of_ble_eq_true rfl) rfl rfl rfl (by decide) inUX7 (hts _ wd_295) rfl dX7_passAll_121 ?_
        refine lv_iload_n hx hb dX7_passAll_124 rfl (lv_at hl 1 rfl) ?_
        refine lv_aload_n hx hb dX7_passAll_125 rfl (lv_at hl 0 rfl) ?_
        refine lv_aload_n hx hb dX7_passAll_126 rfl (lv_at hl 0 rfl) ?_
        refine r_getr hC hW 5 (Nat.le_of_ble_eq_true rfl) rfl rfl rfl (by decide) inUX7 (hts _ wd_295) rfl dX7_passAll_127 ?_
        refine lv_iload_n hx hb dX7_passAll_130 rfl (lv_at hl 1 rfl) ?_
        replace h := og h
        obtain ⟨hi, h⟩ := h
        refine r_ald hC hW (Nat.le_of_ble_eq_true rfl) rfl hi dX7_passAll_131 ?_
        replace h := ob h
        obtain ⟨r23, σ24, hc, h⟩ := h
        refine r_calli hW (va_runV (As := [.int (σ22 5 v1.toNatClampNeg)]) (rest := [.int v1, .ref (ad 5)]) hC.1 (c_X7_pass l D cy ad A _ _ _ _ hc) (cwV 1 hts (gdV wd_450 wd_451 wd_452 wd_300 wd_449) rfl rfl rfl (by decide +kernel) ⟨Nat.le_of_ble_eq_true rfl, Nat.le_of_ble_eq_true rfl⟩) (r_preV hC hW (Nat.le_of_ble_eq_true rfl) rfl rfl) rfl rfl hl.1 rfl (lv_room (Nat.le_of_ble_eq_true rfl)) dX7_passAll_132 ⟨Nat.zero_le _, Nat.zero_le _⟩) (fun H locs hWn => ?_)
        replace hW := hWn
        clear hWn hc
        replace h := og h
        obtain ⟨hi, h⟩ := h
        refine r_ast hC hW (Nat.le_of_ble_eq_true rfl) rfl hi dX7_passAll_135 (fun σ25 eσ25 H locs hWn => ?_)
        replace h := bn eσ25 h
        replace hW := hWn
        clear hWn eσ25
        refine lv_aload_n hx hb dX7_passAll_136 rfl (lv_at hl 0 rfl) ?_
        refine r_getr hC hW 6 (Nat.le_of_ble_eq_true rfl) rfl rfl rfl (by decide) inUX7 (hts _ wd_399) rfl dX7_passAll_137 ?_
        refine lv_iload_n hx hb dX7_passAll_140 rfl (lv_at hl 1 rfl) ?_
        refine lv_aload_n hx hb dX7_passAll_141 rfl (lv_at hl 0 rfl) ?_
        refine lv_aload_n hx hb dX7_passAll_142 rfl (lv_at hl 0 rfl) ?_
        refine r_getr hC hW 6 (Nat.le_of_ble_eq_true rfl) rfl rfl rfl (by decide) inUX7 (hts _ wd_399) rfl dX7_passAll_143 ?_
        refine lv_iload_n hx hb dX7_passAll_146 rfl (lv_at hl 1 rfl) ?_
        replace h := og h
        obtain ⟨hi, h⟩ := h
        refine r_ald hC hW (Nat.le_of_ble_eq_true rfl) rfl hi dX7_passAll_147 ?_
        replace h := ob h
        obtain ⟨r26, σ27, hc, h⟩ := h
        refine r_calli hW (va_runV (As := [.int (σ25 6 v1.toNatClampNeg)]) (rest := [.int v1, .ref (ad 6)]) hC.1 (c_X7_pass l D cy ad A _ _ _ _ hc) (cwV 1 hts (gdV wd_450 wd_451 wd_452 wd_300 wd_449) rfl rfl rfl (by decide +kernel) ⟨Nat.le_of_ble_eq_true rfl, Nat.le_of_ble_eq_true rfl⟩) (r_preV hC hW (Nat.le_of_ble_eq_true rfl) rfl rfl) rfl rfl hl.1 rfl (lv_room (Nat.le_of_ble_eq_true rfl)) dX7_passAll_148 ⟨Nat.zero_le _, Nat.zero_le _⟩) (fun H locs hWn => ?_)
        replace hW := hWn
        clear hWn hc
        replace h := og h
        obtain ⟨hi, h⟩ := h
        refine r_ast hC hW (Nat.le_of_ble_eq_true rfl) rfl hi dX7_passAll_151 (fun σ28 eσ28 H locs hWn => ?_)
        replace h := bn eσ28 h
        replace hW := hWn
        clear hWn eσ28
        refine lv_aload_n hx hb dX7_passAll_152 rfl (lv_at hl 0 rfl) ?_
        refine r_getr hC hW 12 (Nat.le_of_ble_eq_true rfl) rfl rfl rfl (by decide) inUX7 (hts _ wd_348) rfl dX7_passAll_153 ?_
        refine lv_iload_n hx hb dX7_passAll_156 rfl (lv_at hl 1 rfl) ?_
        refine lv_aload_n hx hb dX7_passAll_157 rfl (lv_at hl 0 rfl) ?_
        refine lv_aload_n hx hb dX7_passAll_158 rfl (lv_at hl 0 rfl) ?_
        refine r_getr hC hW 12 (Nat.le_of_ble_eq_true rfl) rfl rfl rfl (by decide) inUX7 (hts _ wd_348) rfl dX7_passAll_159 ?_
        refine lv_iload_n hx hb dX7_passAll_162 rfl (lv_at hl 1 rfl) ?_
        replace h := og h
        obtain ⟨hi, h⟩ := h
        refine r_ald hC hW (Nat.le_of_ble_eq_true rfl) rfl hi dX7_passAll_163 ?_
        replace h := ob h
        obtain ⟨r29, σ30, hc, h⟩ := h
        refine r_calli hW (va_runV (As := [.int (σ28 10 v1.toNatClampNeg)]) (rest := [.int v1, .ref (ad 10)]) hC.1 (c_X7_pass l D cy ad A _ _ _ _ hc) (cwV 1 hts (gdV wd_450 wd_451 wd_452 wd_300 wd_449) rfl rfl rfl (by decide +kernel) ⟨Nat.le_of_ble_eq_true rfl, Nat.le_of_ble_eq_true rfl⟩) (r_preV hC hW (Nat.le_of_ble_eq_true rfl) rfl rfl) rfl rfl hl.1 rfl (lv_room (Nat.le_of_ble_eq_true rfl)) dX7_passAll_164 ⟨Nat.zero_le _, Nat.zero_le _⟩) (fun H locs hWn => ?_)
        replace hW := hWn
        clear hWn hc
        replace h := og h
        obtain ⟨hi, h⟩ := h
        refine r_ast hC hW (Nat.le_of_ble_eq_true rfl) rfl hi dX7_passAll_167 (fun σ31 eσ31 H locs hWn => ?_)
        replace h := bn eσ31 h
        replace hW := hWn
        clear hWn eσ31
        refine lv_aload_n hx hb dX7_passAll_168 rfl (lv_at hl 0 rfl) ?_
        refine r_getr hC hW 13 (Nat.le_of_ble_eq_true rfl) rfl rfl rfl (by decide) inUX7 (hts _ wd_349) rfl dX7_passAll_169 ?_
        refine lv_iload_n hx hb dX7_passAll_172 rfl (lv_at hl 1 rfl) ?_
        refine lv_aload_n hx hb dX7_passAll_173 rfl (lv_at hl 0 rfl) ?_
        refine lv_aload_n hx hb dX7_passAll_174 rfl (lv_at hl 0 rfl) ?_
        refine r_getr hC hW 13 (Nat.le_of_ble_eq_true rfl) rfl rfl rfl (by decide) inUX7 (hts _ wd_349) rfl dX7_passAll_175 ?_
        refine lv_iload_n hx hb dX7_passAll_178 rfl (lv_at hl 1 rfl) ?_
        replace h := og h
        obtain ⟨hi, h⟩ := h
        refine r_ald hC hW (Nat.le_of_ble_eq_true rfl) rfl hi dX7_passAll_179 ?_
        replace h := ob h
        obtain ⟨r32, σ33, hc, h⟩ := h
        refine r_calli hW (va_runV (As := [.int (σ31 11 v1.toNatClampNeg)]) (rest := [.int v1, .ref (ad 11)]) hC.1 (c_X7_pass l D cy ad A _ _ _ _ hc) (cwV 1 hts (gdV wd_450 wd_451 wd_452 wd_300 wd_449) rfl rfl rfl (by decide +kernel) ⟨Nat.le_of_ble_eq_true rfl, Nat.le_of_ble_eq_true rfl⟩) (r_preV hC hW (Nat.le_of_ble_eq_true rfl) rfl rfl) rfl rfl hl.1 rfl (lv_room (Nat.le_of_ble_eq_true rfl)) dX7_passAll_180 ⟨Nat.zero_le _, Nat.zero_le _⟩) (fun H locs hWn => ?_)
        replace hW := hWn
        clear hWn hc
        replace h := og h
        obtain ⟨hi, h⟩ := h
        refine r_ast hC hW (Nat.le_of_ble_eq_true rfl) rfl hi dX7_passAll_183 (fun σ34 eσ34 H locs hWn => ?_)
        replace h := bn eσ34 h
        replace hW := hWn
        clear hWn eσ34
        replace h := bx h
        obtain ⟨x35, ex35, h⟩ := h
        refine lv_iinc (v := x35) (lv' := [(1, .int x35), (0, .ref (ad 0))]) hx hb dX7_passAll_184 hl (k := 1) rfl (by rw [ex35]; rfl) (by decide) rfl (fun ls hln => ?_)
        replace hl := hln
        clear hln ex35
        refine lv_goto (tgt := 50) hx hb dX7_passAll_187 (by decide) ?_
        exact ih50 _ _ h _ _ hW _ (lv_sub hl [1, 0] rfl)
  refine lv_aload_n hx hb dX7_passAll_0 rfl (lv_at hl 0 rfl) ?_
  refine lv_aload_n hx hb dX7_passAll_1 rfl (lv_at hl 0 rfl) ?_
  refine lv_aload_n hx hb dX7_passAll_2 rfl (lv_at hl 0 rfl) ?_
  refine r_geti hC hW 0 (Nat.le_of_ble_eq_true rfl) rfl rfl rfl (by decide) inUX7 (hts _ wd_294) rfl dX7_passAll_3 ?_
  replace h := ob h
  obtain ⟨r36, σ37, hc, h⟩ := h
  refine r_calli hW (va_runV (As := [.int (σ 0 0)]) (rest := [.ref (ad 0)]) hC.1 (c_X7_pass l D cy ad A _ _ _ _ hc) (cwV 1 hts (gdV wd_450 wd_451 wd_452 wd_300 wd_449) rfl rfl rfl (by decide +kernel) ⟨Nat.le_of_ble_eq_true rfl, Nat.le_of_ble_eq_true rfl⟩) (r_preV hC hW (Nat.le_of_ble_eq_true rfl) rfl rfl) rfl rfl hl.1 rfl (lv_room (Nat.le_of_ble_eq_true rfl)) dX7_passAll_6 ⟨Nat.zero_le _, Nat.zero_le _⟩) (fun H locs hWn => ?_)
  replace hW := hWn
  clear hWn hc
  refine r_put hC hW 0 (Nat.le_of_ble_eq_true rfl) rfl rfl rfl (by decide) inUX7 tyX7 tyX7_ok nmX7 (hts _ wd_294) rfl rfl ⟨rfl, rfl⟩ dX7_passAll_9 (fun σ38 eσ38 H locs hWn => ?_)
  replace h := bn eσ38 h
  replace hW := hWn
  clear hWn eσ38
  refine lv_aload_n hx hb dX7_passAll_12 rfl (lv_at hl 0 rfl) ?_
  refine lv_aload_n hx hb dX7_passAll_13 rfl (lv_at hl 0 rfl) ?_
  refine lv_aload_n hx hb dX7_passAll_14 rfl (lv_at hl 0 rfl) ?_
  refine r_geti hC hW 7 (Nat.le_of_ble_eq_true rfl) rfl rfl rfl (by decide) inUX7 (hts _ wd_316) rfl dX7_passAll_15 ?_
  replace h := ob h
  obtain ⟨r39, σ40, hc, h⟩ := h
  refine r_calli hW (va_runV (As := [.int (σ38 0 7)]) (rest := [.ref (ad 0)]) hC.1 (c_X7_pass l D cy ad A _ _ _ _ hc) (cwV 1 hts (gdV wd_450 wd_451 wd_452 wd_300 wd_449) rfl rfl rfl (by decide +kernel) ⟨Nat.le_of_ble_eq_true rfl, Nat.le_of_ble_eq_true rfl⟩) (r_preV hC hW (Nat.le_of_ble_eq_true rfl) rfl rfl) rfl rfl hl.1 rfl (lv_room (Nat.le_of_ble_eq_true rfl)) dX7_passAll_18 ⟨Nat.zero_le _, Nat.zero_le _⟩) (fun H locs hWn => ?_)
  replace hW := hWn
  clear hWn hc
  refine r_put hC hW 7 (Nat.le_of_ble_eq_true rfl) rfl rfl rfl (by decide) inUX7 tyX7 tyX7_ok nmX7 (hts _ wd_316) rfl rfl ⟨rfl, rfl⟩ dX7_passAll_21 (fun σ41 eσ41 H locs hWn => ?_)
  replace h := bn eσ41 h
  replace hW := hWn
  clear hWn eσ41
  refine lv_aload_n hx hb dX7_passAll_24 rfl (lv_at hl 0 rfl) ?_
  refine lv_aload_n hx hb dX7_passAll_25 rfl (lv_at hl 0 rfl) ?_
  refine lv_aload_n hx hb dX7_passAll_26 rfl (lv_at hl 0 rfl) ?_
  refine r_geti hC hW 11 (Nat.le_of_ble_eq_true rfl) rfl rfl rfl (by decide) inUX7 (hts _ wd_320) rfl dX7_passAll_27 ?_
  replace h := ob h
  obtain ⟨r42, σ43, hc, h⟩ := h
  refine r_calli hW (va_runV (As := [.int (σ41 0 11)]) (rest := [.ref (ad 0)]) hC.1 (c_X7_pass l D cy ad A _ _ _ _ hc) (cwV 1 hts (gdV wd_450 wd_451 wd_452 wd_300 wd_449) rfl rfl rfl (by decide +kernel) ⟨Nat.le_of_ble_eq_true rfl, Nat.le_of_ble_eq_true rfl⟩) (r_preV hC hW (Nat.le_of_ble_eq_true rfl) rfl rfl) rfl rfl hl.1 rfl (lv_room (Nat.le_of_ble_eq_true rfl)) dX7_passAll_30 ⟨Nat.zero_le _, Nat.zero_le _⟩) (fun H locs hWn => ?_)
  replace hW := hWn
  clear hWn hc
  refine r_put hC hW 11 (Nat.le_of_ble_eq_true rfl) rfl rfl rfl (by decide) inUX7 tyX7 tyX7_ok nmX7 (hts _ wd_320) rfl rfl ⟨rfl, rfl⟩ dX7_passAll_33 (fun σ44 eσ44 H locs hWn => ?_)
  replace h := bn eσ44 h
  replace hW := hWn
  clear hWn eσ44
  refine lv_aload_n hx hb dX7_passAll_36 rfl (lv_at hl 0 rfl) ?_
  refine lv_aload_n hx hb dX7_passAll_37 rfl (lv_at hl 0 rfl) ?_
  refine lv_aload_n hx hb dX7_passAll_38 rfl (lv_at hl 0 rfl) ?_
  refine r_geti hC hW 14 (Nat.le_of_ble_eq_true rfl) rfl rfl rfl (by decide) inUX7 (hts _ wd_343) rfl dX7_passAll_39 ?_
  replace h := ob h
  obtain ⟨r45, σ46, hc, h⟩ := h
  refine r_calli hW (va_runV (As := [.int (σ44 0 14)]) (rest := [.ref (ad 0)]) hC.1 (c_X7_pass l D cy ad A _ _ _ _ hc) (cwV 1 hts (gdV wd_450 wd_451 wd_452 wd_300 wd_449) rfl rfl rfl (by decide +kernel) ⟨Nat.le_of_ble_eq_true rfl, Nat.le_of_ble_eq_true rfl⟩) (r_preV hC hW (Nat.le_of_ble_eq_true rfl) rfl rfl) rfl rfl hl.1 rfl (lv_room (Nat.le_of_ble_eq_true rfl)) dX7_passAll_42 ⟨Nat.zero_le _, Nat.zero_le _⟩) (fun H locs hWn => ?_)
  replace hW := hWn
  clear hWn hc
  refine r_put hC hW 14 (Nat.le_of_ble_eq_true rfl) rfl rfl rfl (by decide) inUX7 tyX7 tyX7_ok nmX7 (hts _ wd_343) rfl rfl ⟨rfl, rfl⟩ dX7_passAll_45 (fun σ47 eσ47 H locs hWn => ?_)
  replace h := bn eσ47 h
  replace hW := hWn
  clear hWn eσ47
  refine lv_iconst (v := 0) hx hb dX7_passAll_48 (by decide) ?_
  refine lv_istore_n (lv' := [(1, .int 0), (0, .ref (ad 0))]) hx hb dX7_passAll_49 rfl hl (by decide) rfl (fun ls hln => ?_)
  replace hl := hln
  clear hln
  exact L50 _ _ _ h _ _ hW _ (lv_sub hl [1, 0] rfl)
set_option maxHeartbeats 4000000 in
set_option maxRecDepth 100000 in
theorem c_X7_image (l : Launch) (D : va_G) (cy : ClassId × ClassId) (ad : Nat → Nat) (A : Nat → Prop) (N : Nat) (p0 : Int32) (σ : Hp) (r : Int32) (σ' : Hp) (h : t_X7_image N p0 σ = some (r, σ')) : Ci l yX7_image us_X7_image ({ frames := 2, cells := 0, slots := 0, locals := 43 } : Room) D cy 27 shM ad A [.ref (ad 0), .int p0] σ r σ' := by
  unfold t_X7_image at h
  refine Met.ofW (cc := cX7_image) (maxL := 2) (ret := (some .int)) (by decide) rfl ?_
  intro p e s m args below meth c s₁ B hml hv
  obtain ⟨rfl, hP, hK, hD, hA, hN⟩ := hv
  have hx := B.exec
  have hb := B.bytes
  have hr := B.returns
  have hlocks := B.notSynchronized
  have hts : ∀ w ∈ wsU, w.before _ s = true := fun w h => atoms_spec (ws := us_X7_image) B.pre w (List.mem_cons_of_mem _ h)
  have hown : s.vm.findClass RX7 = some m.cls := findClass_of_methodNamed B.named
  have hC : Cx p m c cX7_image 2 s _ wsU RX7 D cy := ⟨⟨hx, hb, hml, hown, hts⟩, hK, hN⟩
  have hW : Wd D cy 27 shM ad A s.heap σ s.heap [] := ⟨hP, hD, va_S.rf, hA⟩
  have hl := lv_entry ([.ref (ad 0), .int p0]) (n := 2) (Nat.le_of_ble_eq_true rfl)
  rw [lg_entry_eq]
  generalize (lg_sl ([.ref (ad 0), .int p0]) ++ List.replicate (2 - (lg_sl ([.ref (ad 0), .int p0])).length) Slot.unset).toArray = ls at hl ⊢
  have hl : lv_has ls 2 [(0, .ref (ad 0)), (1, .int p0)] := hl
  refine lv_iload_n hx hb dX7_image_0 rfl (lv_at hl 1 rfl) ?_
  refine lv_i2l hx hb dX7_image_1 rfl ?_
  refine lv_lconst (v := 0) hx hb dX7_image_2 (by decide) ?_
  refine lv_lconst (v := 1) hx hb dX7_image_3 (by decide) ?_
  replace h := bd h
  obtain ⟨r1, hc, h⟩ := h
  refine r_calli hW (va_runS (As := [.long (p0.toInt64), .long 0, .long 1]) (rest := []) hC.1 (c_X7_in l D cy ad A _ _ _ _ _ hc) (va_cwS 3 hts (gdS wd_298 wd_299 wd_300 wd_297) rfl rfl rfl (by decide +kernel) ⟨Nat.le_of_ble_eq_true rfl, Nat.le_of_ble_eq_true rfl⟩) (r_preS hC hW) rfl rfl hl.1 rfl (lv_room (Nat.le_of_ble_eq_true rfl)) dX7_image_4 ⟨Nat.zero_le _, Nat.zero_le _⟩) (fun H locs hWn => ?_)
  replace hW := hWn
  clear hWn hc
  refine lv_if_ne (tgt := 13) hx hb dX7_image_7 (by decide) (fun cq => ?_) (fun cq => ?_)
  · replace h := tn cq h
    refine lv_aload_n hx hb dX7_image_13 rfl (lv_at hl 0 rfl) ?_
    refine lv_bipush (v := 120) hx hb dX7_image_14 (by decide) ?_
    refine lv_iload_n hx hb dX7_image_16 rfl (lv_at hl 1 rfl) ?_
    refine lv_imul hx hb dX7_image_17 ?_
    refine r_put hC hW 40 (Nat.le_of_ble_eq_true rfl) rfl rfl rfl (by decide) inUX7 tyX7 tyX7_ok nmX7 (hts _ wd_447) rfl rfl ⟨rfl, rfl⟩ dX7_image_18 (fun σ2 eσ2 H locs hWn => ?_)
    replace h := bn eσ2 h
    replace hW := hWn
    clear hWn eσ2
    refine lv_aload_n hx hb dX7_image_21 rfl (lv_at hl 0 rfl) ?_
    refine lv_iconst (v := 1) hx hb dX7_image_22 (by decide) ?_
    refine r_put hC hW 41 (Nat.le_of_ble_eq_true rfl) rfl rfl rfl (by decide) inUX7 tyX7 tyX7_ok nmX7 (hts _ wd_448) rfl rfl (nz (Or.inr rfl)) dX7_image_23 (fun σ3 eσ3 H locs hWn => ?_)
    replace h := bn eσ3 h
    replace hW := hWn
    clear hWn eσ3
    refine lv_aload_n hx hb dX7_image_26 rfl (lv_at hl 0 rfl) ?_
    replace h := bd h
    obtain ⟨σ4, hc, h⟩ := h
    refine r_callv hW (va_runV (As := []) (rest := []) hC.1 (c_X7_passAll l D cy ad A N _ _ hc) (cwV 0 hts (gdV wd_454 wd_455 wd_456 wd_300 wd_453) rfl rfl rfl (by decide +kernel) ⟨Nat.le_of_ble_eq_true rfl, Nat.le_of_ble_eq_true rfl⟩) (r_preV hC hW (Nat.le_of_ble_eq_true rfl) rfl rfl) rfl rfl hl.1 rfl (lv_room (Nat.le_of_ble_eq_true rfl)) dX7_image_27 ⟨Nat.zero_le _, Nat.zero_le _⟩) (fun H locs hWn => ?_)
    replace hW := hWn
    clear hWn hc
    refine lv_aload_n hx hb dX7_image_30 rfl (lv_at hl 0 rfl) ?_
    refine r_getr hC hW 39 (Nat.le_of_ble_eq_true rfl) rfl rfl rfl (by decide) inUX7 (hts _ wd_457) rfl dX7_image_31 ?_
    refine lv_iload_n hx hb dX7_image_34 rfl (lv_at hl 1 rfl) ?_
    refine lv_iconst (v := 1) hx hb dX7_image_35 (by decide) ?_
    replace h := og h
    obtain ⟨hi, h⟩ := h
    refine r_zast hC hW (Nat.le_of_ble_eq_true rfl) rfl hi dX7_image_36 (fun σ5 eσ5 H locs hWn => ?_)
    replace h := bn eσ5 h
    replace hW := hWn
    clear hWn eσ5
    refine lv_iconst (v := 1) hx hb dX7_image_37 (by decide) ?_
    exact r_iretW hC hr hlocks h hW dX7_image_38
  · replace h := tp cq h
    refine lv_bipush (v := (-2)) hx hb dX7_image_10 (by decide) ?_
    exact r_iretW hC hr hlocks h hW dX7_image_12
set_option maxHeartbeats 4000000 in
set_option maxRecDepth 100000 in
theorem c_X7_isRest (l : Launch) (D : va_G) (cy : ClassId × ClassId) (ad : Nat → Nat) (A : Nat → Prop) (N : Nat) (p0 : Int32) (p1 : Int32) (p2 : Int32) (σ : Hp) (r : Int32) (σ' : Hp) (h : t_X7_isRest N p0 p1 p2 σ = some (r, σ')) : Ci l yX7_isRest us_X7_isRest ({ frames := 2, cells := 0, slots := 0, locals := 50 } : Room) D cy 27 shM ad A [.ref (ad 0), .int p0, .int p1, .int p2] σ r σ' := by
  unfold t_X7_isRest at h
  refine Met.ofW (cc := cX7_isRest) (maxL := 6) (ret := (some .boolean)) (by decide) rfl ?_
  intro p e s m args below meth c s₁ B hml hv
  obtain ⟨rfl, hP, hK, hD, hA, hN⟩ := hv
  have hx := B.exec
  have hb := B.bytes
  have hr := B.returns
  have hlocks := B.notSynchronized
  have hts : ∀ w ∈ wsU, w.before _ s = true := fun w h => atoms_spec (ws := us_X7_isRest) B.pre w (List.mem_cons_of_mem _ h)
  have hown : s.vm.findClass RX7 = some m.cls := findClass_of_methodNamed B.named
  have hC : Cx p m c cX7_isRest 6 s _ wsU RX7 D cy := ⟨⟨hx, hb, hml, hown, hts⟩, hK, hN⟩
  have hW : Wd D cy 27 shM ad A s.heap σ s.heap [] := ⟨hP, hD, va_S.rf, hA⟩
  have hl := lv_entry ([.ref (ad 0), .int p0, .int p1, .int p2]) (n := 6) (Nat.le_of_ble_eq_true rfl)
  rw [lg_entry_eq]
  generalize (lg_sl ([.ref (ad 0), .int p0, .int p1, .int p2]) ++ List.replicate (6 - (lg_sl ([.ref (ad 0), .int p0, .int p1, .int p2])).length) Slot.unset).toArray = ls at hl ⊢
  have hl : lv_has ls 6 [(0, .ref (ad 0)), (1, .int p0), (2, .int p1), (3, .int p2)] := hl
  have L6 : ∀ (f : Nat) (v1 : Int32) (v2 : Int32) (v3 : Int32) (v4 : Int32) (v5 : Int32) (σ : Hp), t_X7_isRest_6 N f v1 v2 v3 v4 v5 σ = some (r, σ') → ∀ (H : Heap) (locs : List Loc), Wd D cy 27 shM ad A s.heap σ H locs → ∀ ls : Array Slot, lv_has ls 6 [(0, .ref (ad 0)), (1, .int v1), (2, .int v2), (3, .int v3), (4, .int v4), (5, .int v5)] → Gi p l e us_X7_isRest ({ frames := 2, cells := 0, slots := 0, locals := 50 } : Room) s m [.ref (ad 0), .int p0, .int p1, .int p2] below meth c D cy 27 shM ad A r σ' H locs (F0 m 6 ls []) := by
    intro f
    unfold t_X7_isRest_6
    refine loopG_ind (fun (T : Int32 → Int32 → Int32 → Int32 → Int32 → Hp → Option (Int32 × Hp)) => ∀ (v1 : Int32) (v2 : Int32) (v3 : Int32) (v4 : Int32) (v5 : Int32) (σ : Hp), T v1 v2 v3 v4 v5 σ = some (r, σ') → ∀ (H : Heap) (locs : List Loc), Wd D cy 27 shM ad A s.heap σ H locs → ∀ ls : Array Slot, lv_has ls 6 [(0, .ref (ad 0)), (1, .int v1), (2, .int v2), (3, .int v3), (4, .int v4), (5, .int v5)] → Gi p l e us_X7_isRest ({ frames := 2, cells := 0, slots := 0, locals := 50 } : Room) s m [.ref (ad 0), .int p0, .int p1, .int p2] below meth c D cy 27 shM ad A r σ' H locs (F0 m 6 ls [])) ?_ ?_ f
    · intro v1 v2 v3 v4 v5 σ h; exact absurd h (by simp)
    · intro k6 ih6
      have J59 : ∀ (v1 : Int32) (v2 : Int32) (v3 : Int32) (v4 : Int32) (v5 : Int32) (σ : Hp), t_X7_isRest_59 N k6 v1 v2 v3 v4 v5 σ = some (r, σ') → ∀ (H : Heap) (locs : List Loc), Wd D cy 27 shM ad A s.heap σ H locs → ∀ ls : Array Slot, lv_has ls 6 [(0, .ref (ad 0)), (1, .int v1), (2, .int v2), (3, .int v3), (4, .int v4), (5, .int v5)] → Gi p l e us_X7_isRest ({ frames := 2, cells := 0, slots := 0, locals := 50 } : Room) s m [.ref (ad 0), .int p0, .int p1, .int p2] below meth c D cy 27 shM ad A r σ' H locs (F0 m 59 ls []) := by
        intro v1 v2 v3 v4 v5 σ h H locs hW ls hl
        unfold t_X7_isRest_59 at h
        replace h := bx h
        obtain ⟨x1, ex1, h⟩ := h
        refine lv_iinc (v := x1) (lv' := [(5, .int x1), (0, .ref (ad 0)), (1, .int v1), (2, .int v2), (3, .int v3), (4, .int v4)]) hx hb dX7_isRest_59 hl (k := 5) rfl (by rw [ex1]; rfl) (by decide) rfl (fun ls hln => ?_)
        replace hl := hln
        clear hln ex1
        refine lv_goto (tgt := 6) hx hb dX7_isRest_62 (by decide) ?_
        exact ih6 _ _ _ _ _ _ h _ _ hW _ (lv_sub hl [1, 2, 3, 4, 5, 0] rfl)
      have J57 : ∀ (v1 : Int32) (v2 : Int32) (v3 : Int32) (v5 : Int32) (s0 : Int32) (σ : Hp), t_X7_isRest_57 N k6 v1 v2 v3 v5 s0 σ = some (r, σ') → ∀ (H : Heap) (locs : List Loc), Wd D cy 27 shM ad A s.heap σ H locs → ∀ ls : Array Slot, lv_has ls 6 [(0, .ref (ad 0)), (1, .int v1), (2, .int v2), (3, .int v3), (5, .int v5)] → Gi p l e us_X7_isRest ({ frames := 2, cells := 0, slots := 0, locals := 50 } : Room) s m [.ref (ad 0), .int p0, .int p1, .int p2] below meth c D cy 27 shM ad A r σ' H locs (F0 m 57 ls [.int s0]) := by
        intro v1 v2 v3 v5 s0 σ h H locs hW ls hl
        unfold t_X7_isRest_57 at h
        refine lv_istore (lv' := [(4, .int s0), (0, .ref (ad 0)), (1, .int v1), (2, .int v2), (3, .int v3), (5, .int v5)]) hx hb dX7_isRest_57 hl (by decide) rfl (fun ls hln => ?_)
        replace hl := hln
        clear hln
        exact J59 _ _ _ _ _ _ h _ _ hW _ (lv_sub hl [1, 2, 3, 4, 0, 5] rfl)
      have J56 : ∀ (v1 : Int32) (v2 : Int32) (v3 : Int32) (v5 : Int32) (σ : Hp), t_X7_isRest_56 N k6 v1 v2 v3 v5 σ = some (r, σ') → ∀ (H : Heap) (locs : List Loc), Wd D cy 27 shM ad A s.heap σ H locs → ∀ ls : Array Slot, lv_has ls 6 [(0, .ref (ad 0)), (1, .int v1), (2, .int v2), (3, .int v3), (5, .int v5)] → Gi p l e us_X7_isRest ({ frames := 2, cells := 0, slots := 0, locals := 50 } : Room) s m [.ref (ad 0), .int p0, .int p1, .int p2] below meth c D cy 27 shM ad A r σ' H locs (F0 m 56 ls []) := by
        intro v1 v2 v3 v5 σ h H locs hW ls hl
        unfold t_X7_isRest_56 at h
        refine lv_iconst (v := 0) hx hb dX7_isRest_56 (by decide) ?_
        exact J57 _ _ _ _ _ _ h _ _ hW _ (lv_sub hl [0, 1, 2, 3, 4] rfl)
      intro v1 v2 v3 v4 v5 σ h H locs hW ls hl
      refine lv_iload hx hb dX7_isRest_6 (lv_at hl 5 rfl) ?_
      refine lv_bipush (v := 6) hx hb dX7_isRest_8 (by decide) ?_
      refine lv_icmp_ge (tgt := 65) hx hb dX7_isRest_10 (by decide) (fun cq => ?_) (fun cq => ?_)
      · replace h := tp cq h
        refine lv_iload hx hb dX7_isRest_65 (lv_at hl 4 rfl) ?_
        replace h := oz h
        obtain ⟨hz, h⟩ := h
        exact r_zretW hz hC hr hlocks h hW dX7_isRest_67
      · replace h := tn cq h
        refine lv_iload_n hx hb dX7_isRest_13 rfl (lv_at hl 2 rfl) ?_
        refine lv_iload hx hb dX7_isRest_14 (lv_at hl 5 rfl) ?_
        refine lv_ishr hx hb dX7_isRest_16 ?_
        refine lv_iconst (v := 1) hx hb dX7_isRest_17 (by decide) ?_
        refine lv_iand hx hb dX7_isRest_18 ?_
        refine lv_iconst (v := 1) hx hb dX7_isRest_19 (by decide) ?_
        refine lv_icmp_ne (tgt := 59) hx hb dX7_isRest_20 (by decide) (fun cq => ?_) (fun cq => ?_)
        · replace h := tn cq h
          exact J59 _ _ _ _ _ _ h _ _ hW _ (lv_sub hl [0, 1, 2, 3, 4, 5] rfl)
        · replace h := tp cq h
          refine lv_iload hx hb dX7_isRest_23 (lv_at hl 4 rfl) ?_
          refine lv_if_eq (tgt := 56) hx hb dX7_isRest_25 (by decide) (fun cq => ?_) (fun cq => ?_)
          · replace h := tp cq h
            exact J56 _ _ _ _ _ h _ _ hW _ (lv_sub hl [0, 1, 2, 3, 5] rfl)
          · replace h := tn cq h
            refine lv_aload_n hx hb dX7_isRest_28 rfl (lv_at hl 0 rfl) ?_
            refine lv_iload hx hb dX7_isRest_29 (lv_at hl 5 rfl) ?_
            refine lv_iload_n hx hb dX7_isRest_31 rfl (lv_at hl 1 rfl) ?_
            refine lv_iconst (v := 1) hx hb dX7_isRest_32 (by decide) ?_
            refine lv_iload hx hb dX7_isRest_33 (lv_at hl 5 rfl) ?_
            refine lv_ishl hx hb dX7_isRest_35 ?_
            refine lv_ixor hx hb dX7_isRest_36 ?_
            refine lv_iload_n hx hb dX7_isRest_37 rfl (lv_at hl 3 rfl) ?_
            replace h := ob h
            obtain ⟨r2, σ3, hc, h⟩ := h
            refine r_calli hW (va_runV (As := [.int v5, .int (v1 ^^^ (1 <<< (v5 &&& 31))), .int v3]) (rest := []) hC.1 (c_X7_gainOf l D cy ad A N _ _ _ _ _ _ hc) (cwV 3 hts (gdV wd_459 wd_460 wd_461 wd_300 wd_458) rfl rfl rfl (by decide +kernel) ⟨Nat.le_of_ble_eq_true rfl, Nat.le_of_ble_eq_true rfl⟩) (r_preV hC hW (Nat.le_of_ble_eq_true rfl) rfl rfl) rfl rfl hl.1 rfl (lv_room (Nat.le_of_ble_eq_true rfl)) dX7_isRest_38 ⟨Nat.zero_le _, Nat.zero_le _⟩) (fun H locs hWn => ?_)
            replace hW := hWn
            clear hWn hc
            refine lv_aload_n hx hb dX7_isRest_41 rfl (lv_at hl 0 rfl) ?_
            refine lv_iload hx hb dX7_isRest_42 (lv_at hl 5 rfl) ?_
            refine lv_iload_n hx hb dX7_isRest_44 rfl (lv_at hl 1 rfl) ?_
            refine lv_iload_n hx hb dX7_isRest_45 rfl (lv_at hl 3 rfl) ?_
            replace h := ob h
            obtain ⟨r4, σ5, hc, h⟩ := h
            refine r_calli hW (va_runV (As := [.int v5, .int v1, .int v3]) (rest := [.int r2]) hC.1 (c_X7_gainOf l D cy ad A N _ _ _ _ _ _ hc) (cwV 3 hts (gdV wd_459 wd_460 wd_461 wd_300 wd_458) rfl rfl rfl (by decide +kernel) ⟨Nat.le_of_ble_eq_true rfl, Nat.le_of_ble_eq_true rfl⟩) (r_preV hC hW (Nat.le_of_ble_eq_true rfl) rfl rfl) rfl rfl hl.1 rfl (lv_room (Nat.le_of_ble_eq_true rfl)) dX7_isRest_46 ⟨Nat.zero_le _, Nat.zero_le _⟩) (fun H locs hWn => ?_)
            replace hW := hWn
            clear hWn hc
            refine lv_icmp_gt (tgt := 56) hx hb dX7_isRest_49 (by decide) (fun cq => ?_) (fun cq => ?_)
            · replace h := tp cq h
              exact J56 _ _ _ _ _ h _ _ hW _ (lv_sub hl [0, 1, 2, 3, 5] rfl)
            · replace h := tn cq h
              refine lv_iconst (v := 1) hx hb dX7_isRest_52 (by decide) ?_
              refine lv_goto (tgt := 57) hx hb dX7_isRest_53 (by decide) ?_
              exact J57 _ _ _ _ _ _ h _ _ hW _ (lv_sub hl [0, 1, 2, 3, 5] rfl)
  refine lv_iconst (v := 1) hx hb dX7_isRest_0 (by decide) ?_
  refine lv_istore (lv' := [(4, .int 1), (0, .ref (ad 0)), (1, .int p0), (2, .int p1), (3, .int p2)]) hx hb dX7_isRest_1 hl (by decide) rfl (fun ls hln => ?_)
  replace hl := hln
  clear hln
  refine lv_iconst (v := 0) hx hb dX7_isRest_3 (by decide) ?_
  refine lv_istore (lv' := [(5, .int 0), (4, .int 1), (0, .ref (ad 0)), (1, .int p0), (2, .int p1), (3, .int p2)]) hx hb dX7_isRest_4 hl (by decide) rfl (fun ls hln => ?_)
  replace hl := hln
  clear hln
  exact L6 _ _ _ _ _ _ _ h _ _ hW _ (lv_sub hl [2, 3, 4, 5, 1, 0] rfl)
