set_option maxHeartbeats 8000000 in
set_option maxRecDepth 100000 in
theorem law_case0 {p : Program} {l : Launch} {e : Env} {s : State} {m : MethodId} {below : List Frame} {meth : Method} {c : Code} {D : va_G} {cy : ClassId × ClassId} {b L t0 : Nat} {xs : Nat → Int32} {adX adM : Nat → Nat} {N : Nat} {Rl : Hp → Hp → Prop} (hk0 : ∀ (σ τ : Hp), Rl σ τ → ∀ (p0 : Int32), ∃ r : Int32, ∃ σ1 : Hp, ∃ τ1 : Hp, t_X6_eggs N p0 σ = some (r, σ1) ∧ t_X7_eggs N p0 τ = some (r, τ1) ∧ Rl σ1 τ1) (hC : Cx p m c cL_law 4 s #[Value.ref b] wsU RL D cy) (hX : va_X b L xs s s.heap) (hbl : b < s.heap.size) (hbA : ¬ (fun q : Nat => s.heap.size ≤ q) b) (hST : ST t0 (fun q => s.heap.size ≤ q) s) {x3 a1 a2 a3 : Int32} (hi1 : vp_in (x3 + 1) L) (hi2 : vp_in (x3 + 2) L) (hi3 : vp_in (x3 + 3) L) (ea1 : a1 = xs (x3 + 1).toNatClampNeg) (ea2 : a2 = xs (x3 + 2).toNatClampNeg) (ea3 : a3 = xs (x3 + 3).toNatClampNeg) {σ τ : Hp} (hR : Rl σ τ) {H : Heap} {locs : List Loc} (hV : LW D cy 55 shX adX 27 shM adM (fun q => s.heap.size ≤ q) s.heap σ τ H locs) {ls : Array Slot} (hl : lv_has ls 4 [(0, .ref b), (1, .ref (adX 0)), (2, .ref (adM 0)), (3, .int x3)]) (next : ∀ (σ1 τ1 : Hp), Rl σ1 τ1 → ∀ (H : Heap) (locs : List Loc), LW D cy 55 shX adX 27 shM adM (fun q => s.heap.size ≤ q) s.heap σ1 τ1 H locs → W p l e room_1 s m #[Value.ref b] below meth c H locs 600000 7302250 (lw_Z below #[Value.ref b] s) (F0 m 986 ls [])) : W p l e room_1 s m #[Value.ref b] below meth c H locs 600000 7302250 (lw_Z below #[Value.ref b] s) (F0 m 168 ls []) := by
  have hx := hC.1.1
  have hb := hC.1.2.1
  have hts := hC.1.2.2.2.2
  refine lv_aload_n hx hb dL_law_168 rfl (lv_at hl 1 rfl) ?_
  refine lv_aload_n hx hb dL_law_169 rfl (lv_at hl 0 rfl) ?_
  refine lv_iload_n hx hb dL_law_170 rfl (lv_at hl 3 rfl) ?_
  refine lv_iconst (v := 1) hx hb dL_law_171 (by decide) ?_
  refine lv_iadd hx hb dL_law_172 ?_
  refine va_sld hx hb hX hbl hbA hV.2.2.2.2.2.1 hi1 dL_law_173 ?_
  rw [← ea1]
  obtain ⟨r, σ1, τ1, e1, e2, hR1⟩ := hk0 σ τ hR a1
  refine law_i (As := [.int a1]) (rest := []) hC hV (fun A1 => c_X6_eggs l D cy adX A1 N _ _ _ _ e1) (cwV 1 hts (gdV wd_809 wd_624 wd_625 wd_5 wd_623) rfl rfl rfl (by decide +kernel) ⟨Nat.le_of_ble_eq_true rfl, Nat.le_of_ble_eq_true rfl⟩) (Nat.le_of_ble_eq_true rfl) rfl rfl rfl hl.1 (Nat.le_of_ble_eq_true rfl) dL_law_174 ⟨Nat.le_of_ble_eq_true rfl, Nat.le_of_ble_eq_true rfl⟩ (fun H1 locs1 hV1 => ?_)
  replace hV := hV1
  clear hV1
  refine lv_aload_n hx hb dL_law_177 rfl (lv_at hl 2 rfl) ?_
  refine lv_aload_n hx hb dL_law_178 rfl (lv_at hl 0 rfl) ?_
  refine lv_iload_n hx hb dL_law_179 rfl (lv_at hl 3 rfl) ?_
  refine lv_iconst (v := 1) hx hb dL_law_180 (by decide) ?_
  refine lv_iadd hx hb dL_law_181 ?_
  refine va_sld hx hb hX hbl hbA hV.2.2.2.2.2.1 hi1 dL_law_182 ?_
  rw [← ea1]
  refine law_i (As := [.int a1]) (rest := [.int r]) hC hV.swap (fun A1 => c_X7_eggs l D cy adM A1 N _ _ _ _ e2) (cwV 1 hts (gdV wd_810 wd_714 wd_715 wd_300 wd_713) rfl rfl rfl (by decide +kernel) ⟨Nat.le_of_ble_eq_true rfl, Nat.le_of_ble_eq_true rfl⟩) (Nat.le_of_ble_eq_true rfl) rfl rfl rfl hl.1 (Nat.le_of_ble_eq_true rfl) dL_law_183 ⟨Nat.le_of_ble_eq_true rfl, Nat.le_of_ble_eq_true rfl⟩ (fun H1 locs1 hV1 => ?_)
  replace hV := hV1.swap
  clear hV1
  refine lv_icmp_eq (tgt := 986) hx hb dL_law_186 (by decide) (fun _ => ?_) (fun cz => absurd rfl cz)
  exact next _ _ hR1 _ _ hV
set_option maxHeartbeats 8000000 in
set_option maxRecDepth 100000 in
theorem law_case1 {p : Program} {l : Launch} {e : Env} {s : State} {m : MethodId} {below : List Frame} {meth : Method} {c : Code} {D : va_G} {cy : ClassId × ClassId} {b L t0 : Nat} {xs : Nat → Int32} {adX adM : Nat → Nat} {N : Nat} {Rl : Hp → Hp → Prop} (hk1 : ∀ (σ τ : Hp), Rl σ τ → ∀ (p0 : Int32) (p1 : Int32) (p2 : Int32), ∃ r : Int32, ∃ σ1 : Hp, ∃ τ1 : Hp, t_X6_egg p0 p1 p2 σ = some (r, σ1) ∧ t_X7_egg p0 p1 p2 τ = some (r, τ1) ∧ Rl σ1 τ1) (hC : Cx p m c cL_law 4 s #[Value.ref b] wsU RL D cy) (hX : va_X b L xs s s.heap) (hbl : b < s.heap.size) (hbA : ¬ (fun q : Nat => s.heap.size ≤ q) b) (hST : ST t0 (fun q => s.heap.size ≤ q) s) {x3 a1 a2 a3 : Int32} (hi1 : vp_in (x3 + 1) L) (hi2 : vp_in (x3 + 2) L) (hi3 : vp_in (x3 + 3) L) (ea1 : a1 = xs (x3 + 1).toNatClampNeg) (ea2 : a2 = xs (x3 + 2).toNatClampNeg) (ea3 : a3 = xs (x3 + 3).toNatClampNeg) {σ τ : Hp} (hR : Rl σ τ) {H : Heap} {locs : List Loc} (hV : LW D cy 55 shX adX 27 shM adM (fun q => s.heap.size ≤ q) s.heap σ τ H locs) {ls : Array Slot} (hl : lv_has ls 4 [(0, .ref b), (1, .ref (adX 0)), (2, .ref (adM 0)), (3, .int x3)]) (next : ∀ (σ1 τ1 : Hp), Rl σ1 τ1 → ∀ (H : Heap) (locs : List Loc), LW D cy 55 shX adX 27 shM adM (fun q => s.heap.size ≤ q) s.heap σ1 τ1 H locs → W p l e room_1 s m #[Value.ref b] below meth c H locs 600000 7302250 (lw_Z below #[Value.ref b] s) (F0 m 986 ls [])) : W p l e room_1 s m #[Value.ref b] below meth c H locs 600000 7302250 (lw_Z below #[Value.ref b] s) (F0 m 191 ls []) := by
  have hx := hC.1.1
  have hb := hC.1.2.1
  have hts := hC.1.2.2.2.2
  refine lv_aload_n hx hb dL_law_191 rfl (lv_at hl 1 rfl) ?_
  refine lv_aload_n hx hb dL_law_192 rfl (lv_at hl 0 rfl) ?_
  refine lv_iload_n hx hb dL_law_193 rfl (lv_at hl 3 rfl) ?_
  refine lv_iconst (v := 1) hx hb dL_law_194 (by decide) ?_
  refine lv_iadd hx hb dL_law_195 ?_
  refine va_sld hx hb hX hbl hbA hV.2.2.2.2.2.1 hi1 dL_law_196 ?_
  rw [← ea1]
  refine lv_aload_n hx hb dL_law_197 rfl (lv_at hl 0 rfl) ?_
  refine lv_iload_n hx hb dL_law_198 rfl (lv_at hl 3 rfl) ?_
  refine lv_iconst (v := 2) hx hb dL_law_199 (by decide) ?_
  refine lv_iadd hx hb dL_law_200 ?_
  refine va_sld hx hb hX hbl hbA hV.2.2.2.2.2.1 hi2 dL_law_201 ?_
  rw [← ea2]
  refine lv_aload_n hx hb dL_law_202 rfl (lv_at hl 0 rfl) ?_
  refine lv_iload_n hx hb dL_law_203 rfl (lv_at hl 3 rfl) ?_
  refine lv_iconst (v := 3) hx hb dL_law_204 (by decide) ?_
  refine lv_iadd hx hb dL_law_205 ?_
  refine va_sld hx hb hX hbl hbA hV.2.2.2.2.2.1 hi3 dL_law_206 ?_
  rw [← ea3]
  obtain ⟨r, σ1, τ1, e1, e2, hR1⟩ := hk1 σ τ hR a1 a2 a3
  refine law_i (As := [.int a1, .int a2, .int a3]) (rest := []) hC hV (fun A1 => c_X6_egg l D cy adX A1 _ _ _ _ _ _ e1) (cwV 3 hts (gdV wd_811 wd_627 wd_628 wd_5 wd_626) rfl rfl rfl (by decide +kernel) ⟨Nat.le_of_ble_eq_true rfl, Nat.le_of_ble_eq_true rfl⟩) (Nat.le_of_ble_eq_true rfl) rfl rfl rfl hl.1 (Nat.le_of_ble_eq_true rfl) dL_law_207 ⟨Nat.le_of_ble_eq_true rfl, Nat.le_of_ble_eq_true rfl⟩ (fun H1 locs1 hV1 => ?_)
  replace hV := hV1
  clear hV1
  refine lv_aload_n hx hb dL_law_210 rfl (lv_at hl 2 rfl) ?_
  refine lv_aload_n hx hb dL_law_211 rfl (lv_at hl 0 rfl) ?_
  refine lv_iload_n hx hb dL_law_212 rfl (lv_at hl 3 rfl) ?_
  refine lv_iconst (v := 1) hx hb dL_law_213 (by decide) ?_
  refine lv_iadd hx hb dL_law_214 ?_
  refine va_sld hx hb hX hbl hbA hV.2.2.2.2.2.1 hi1 dL_law_215 ?_
  rw [← ea1]
  refine lv_aload_n hx hb dL_law_216 rfl (lv_at hl 0 rfl) ?_
  refine lv_iload_n hx hb dL_law_217 rfl (lv_at hl 3 rfl) ?_
  refine lv_iconst (v := 2) hx hb dL_law_218 (by decide) ?_
  refine lv_iadd hx hb dL_law_219 ?_
  refine va_sld hx hb hX hbl hbA hV.2.2.2.2.2.1 hi2 dL_law_220 ?_
  rw [← ea2]
  refine lv_aload_n hx hb dL_law_221 rfl (lv_at hl 0 rfl) ?_
  refine lv_iload_n hx hb dL_law_222 rfl (lv_at hl 3 rfl) ?_
  refine lv_iconst (v := 3) hx hb dL_law_223 (by decide) ?_
  refine lv_iadd hx hb dL_law_224 ?_
  refine va_sld hx hb hX hbl hbA hV.2.2.2.2.2.1 hi3 dL_law_225 ?_
  rw [← ea3]
  refine law_i (As := [.int a1, .int a2, .int a3]) (rest := [.int r]) hC hV.swap (fun A1 => c_X7_egg l D cy adM A1 _ _ _ _ _ _ e2) (cwV 3 hts (gdV wd_812 wd_717 wd_718 wd_300 wd_716) rfl rfl rfl (by decide +kernel) ⟨Nat.le_of_ble_eq_true rfl, Nat.le_of_ble_eq_true rfl⟩) (Nat.le_of_ble_eq_true rfl) rfl rfl rfl hl.1 (Nat.le_of_ble_eq_true rfl) dL_law_226 ⟨Nat.le_of_ble_eq_true rfl, Nat.le_of_ble_eq_true rfl⟩ (fun H1 locs1 hV1 => ?_)
  replace hV := hV1.swap
  clear hV1
  refine lv_icmp_eq (tgt := 986) hx hb dL_law_229 (by decide) (fun _ => ?_) (fun cz => absurd rfl cz)
  exact next _ _ hR1 _ _ hV
set_option maxHeartbeats 8000000 in
set_option maxRecDepth 100000 in
theorem law_case2 {p : Program} {l : Launch} {e : Env} {s : State} {m : MethodId} {below : List Frame} {meth : Method} {c : Code} {D : va_G} {cy : ClassId × ClassId} {b L t0 : Nat} {xs : Nat → Int32} {adX adM : Nat → Nat} {N : Nat} {Rl : Hp → Hp → Prop} (hk2 : ∀ (σ τ : Hp), Rl σ τ → ∀ (p0 p1 : Int32), (p1 = 0 ∨ p1 = 1) → ∃ r : Int32, ∃ σ1 : Hp, ∃ τ1 : Hp, t_X6_stove p0 p1 σ = some (r, σ1) ∧ t_X7_stove p0 p1 τ = some (r, τ1) ∧ Rl σ1 τ1) (hC : Cx p m c cL_law 4 s #[Value.ref b] wsU RL D cy) (hX : va_X b L xs s s.heap) (hbl : b < s.heap.size) (hbA : ¬ (fun q : Nat => s.heap.size ≤ q) b) (hST : ST t0 (fun q => s.heap.size ≤ q) s) {x3 a1 a2 a3 : Int32} (hi1 : vp_in (x3 + 1) L) (hi2 : vp_in (x3 + 2) L) (hi3 : vp_in (x3 + 3) L) (ea1 : a1 = xs (x3 + 1).toNatClampNeg) (ea2 : a2 = xs (x3 + 2).toNatClampNeg) (ea3 : a3 = xs (x3 + 3).toNatClampNeg) {σ τ : Hp} (hR : Rl σ τ) {H : Heap} {locs : List Loc} (hV : LW D cy 55 shX adX 27 shM adM (fun q => s.heap.size ≤ q) s.heap σ τ H locs) {ls : Array Slot} (hl : lv_has ls 4 [(0, .ref b), (1, .ref (adX 0)), (2, .ref (adM 0)), (3, .int x3)]) (next : ∀ (σ1 τ1 : Hp), Rl σ1 τ1 → ∀ (H : Heap) (locs : List Loc), LW D cy 55 shX adX 27 shM adM (fun q => s.heap.size ≤ q) s.heap σ1 τ1 H locs → W p l e room_1 s m #[Value.ref b] below meth c H locs 600000 7302250 (lw_Z below #[Value.ref b] s) (F0 m 986 ls [])) : W p l e room_1 s m #[Value.ref b] below meth c H locs 600000 7302250 (lw_Z below #[Value.ref b] s) (F0 m 234 ls []) := by
  have hx := hC.1.1
  have hb := hC.1.2.1
  have hts := hC.1.2.2.2.2
  refine lv_aload_n hx hb dL_law_234 rfl (lv_at hl 1 rfl) ?_
  refine lv_aload_n hx hb dL_law_235 rfl (lv_at hl 0 rfl) ?_
  refine lv_iload_n hx hb dL_law_236 rfl (lv_at hl 3 rfl) ?_
  refine lv_iconst (v := 1) hx hb dL_law_237 (by decide) ?_
  refine lv_iadd hx hb dL_law_238 ?_
  refine va_sld hx hb hX hbl hbA hV.2.2.2.2.2.1 hi1 dL_law_239 ?_
  rw [← ea1]
  refine lv_aload_n hx hb dL_law_240 rfl (lv_at hl 0 rfl) ?_
  refine lv_iload_n hx hb dL_law_241 rfl (lv_at hl 3 rfl) ?_
  refine lv_iconst (v := 2) hx hb dL_law_242 (by decide) ?_
  refine lv_iadd hx hb dL_law_243 ?_
  refine va_sld hx hb hX hbl hbA hV.2.2.2.2.2.1 hi2 dL_law_244 ?_
  rw [← ea2]
  refine lv_if_eq (tgt := 252) hx hb dL_law_245 (by decide) (fun cb => ?_) (fun cb => ?_)
  · have hcb := cb
    refine lv_iconst (v := 0) hx hb dL_law_252 (by decide) ?_
    obtain ⟨r, σ1, τ1, e1, e2, hR1⟩ := hk2 σ τ hR a1 0 (Or.inl rfl)
    refine law_i (As := [.int a1, .int 0]) (rest := []) hC hV (fun A1 => c_X6_stove l D cy adX A1 _ _ _ _ _ e1) (cwV 2 hts (gdV wd_813 wd_630 wd_631 wd_5 wd_629) rfl rfl rfl (by decide +kernel) ⟨Nat.le_of_ble_eq_true rfl, Nat.le_of_ble_eq_true rfl⟩) (Nat.le_of_ble_eq_true rfl) rfl rfl rfl hl.1 (Nat.le_of_ble_eq_true rfl) dL_law_253 ⟨Nat.le_of_ble_eq_true rfl, Nat.le_of_ble_eq_true rfl⟩ (fun H1 locs1 hV1 => ?_)
    replace hV := hV1
    clear hV1
    refine lv_aload_n hx hb dL_law_256 rfl (lv_at hl 2 rfl) ?_
    refine lv_aload_n hx hb dL_law_257 rfl (lv_at hl 0 rfl) ?_
    refine lv_iload_n hx hb dL_law_258 rfl (lv_at hl 3 rfl) ?_
    refine lv_iconst (v := 1) hx hb dL_law_259 (by decide) ?_
    refine lv_iadd hx hb dL_law_260 ?_
    refine va_sld hx hb hX hbl hbA hV.2.2.2.2.2.1 hi1 dL_law_261 ?_
    rw [← ea1]
    refine lv_aload_n hx hb dL_law_262 rfl (lv_at hl 0 rfl) ?_
    refine lv_iload_n hx hb dL_law_263 rfl (lv_at hl 3 rfl) ?_
    refine lv_iconst (v := 2) hx hb dL_law_264 (by decide) ?_
    refine lv_iadd hx hb dL_law_265 ?_
    refine va_sld hx hb hX hbl hbA hV.2.2.2.2.2.1 hi2 dL_law_266 ?_
    rw [← ea2]
    refine lv_if_eq (tgt := 274) hx hb dL_law_267 (by decide) (fun _ => ?_) (fun cz => absurd hcb cz)
    refine lv_iconst (v := 0) hx hb dL_law_274 (by decide) ?_
    refine law_i (As := [.int a1, .int 0]) (rest := [.int r]) hC hV.swap (fun A1 => c_X7_stove l D cy adM A1 _ _ _ _ _ e2) (cwV 2 hts (gdV wd_814 wd_720 wd_721 wd_300 wd_719) rfl rfl rfl (by decide +kernel) ⟨Nat.le_of_ble_eq_true rfl, Nat.le_of_ble_eq_true rfl⟩) (Nat.le_of_ble_eq_true rfl) rfl rfl rfl hl.1 (Nat.le_of_ble_eq_true rfl) dL_law_275 ⟨Nat.le_of_ble_eq_true rfl, Nat.le_of_ble_eq_true rfl⟩ (fun H1 locs1 hV1 => ?_)
    replace hV := hV1.swap
    clear hV1
    refine lv_icmp_eq (tgt := 986) hx hb dL_law_278 (by decide) (fun _ => ?_) (fun cz => absurd rfl cz)
    exact next _ _ hR1 _ _ hV
  · have hcb := cb
    refine lv_iconst (v := 1) hx hb dL_law_248 (by decide) ?_
    refine lv_goto (tgt := 253) hx hb dL_law_249 (by decide) ?_
    obtain ⟨r, σ1, τ1, e1, e2, hR1⟩ := hk2 σ τ hR a1 1 (Or.inr rfl)
    refine law_i (As := [.int a1, .int 1]) (rest := []) hC hV (fun A1 => c_X6_stove l D cy adX A1 _ _ _ _ _ e1) (cwV 2 hts (gdV wd_813 wd_630 wd_631 wd_5 wd_629) rfl rfl rfl (by decide +kernel) ⟨Nat.le_of_ble_eq_true rfl, Nat.le_of_ble_eq_true rfl⟩) (Nat.le_of_ble_eq_true rfl) rfl rfl rfl hl.1 (Nat.le_of_ble_eq_true rfl) dL_law_253 ⟨Nat.le_of_ble_eq_true rfl, Nat.le_of_ble_eq_true rfl⟩ (fun H1 locs1 hV1 => ?_)
    replace hV := hV1
    clear hV1
    refine lv_aload_n hx hb dL_law_256 rfl (lv_at hl 2 rfl) ?_
    refine lv_aload_n hx hb dL_law_257 rfl (lv_at hl 0 rfl) ?_
    refine lv_iload_n hx hb dL_law_258 rfl (lv_at hl 3 rfl) ?_
    refine lv_iconst (v := 1) hx hb dL_law_259 (by decide) ?_
    refine lv_iadd hx hb dL_law_260 ?_
    refine va_sld hx hb hX hbl hbA hV.2.2.2.2.2.1 hi1 dL_law_261 ?_
    rw [← ea1]
    refine lv_aload_n hx hb dL_law_262 rfl (lv_at hl 0 rfl) ?_
    refine lv_iload_n hx hb dL_law_263 rfl (lv_at hl 3 rfl) ?_
    refine lv_iconst (v := 2) hx hb dL_law_264 (by decide) ?_
    refine lv_iadd hx hb dL_law_265 ?_
    refine va_sld hx hb hX hbl hbA hV.2.2.2.2.2.1 hi2 dL_law_266 ?_
    rw [← ea2]
    refine lv_if_eq (tgt := 274) hx hb dL_law_267 (by decide) (fun cz => absurd cz hcb) (fun _ => ?_)
    refine lv_iconst (v := 1) hx hb dL_law_270 (by decide) ?_
    refine lv_goto (tgt := 275) hx hb dL_law_271 (by decide) ?_
    refine law_i (As := [.int a1, .int 1]) (rest := [.int r]) hC hV.swap (fun A1 => c_X7_stove l D cy adM A1 _ _ _ _ _ e2) (cwV 2 hts (gdV wd_814 wd_720 wd_721 wd_300 wd_719) rfl rfl rfl (by decide +kernel) ⟨Nat.le_of_ble_eq_true rfl, Nat.le_of_ble_eq_true rfl⟩) (Nat.le_of_ble_eq_true rfl) rfl rfl rfl hl.1 (Nat.le_of_ble_eq_true rfl) dL_law_275 ⟨Nat.le_of_ble_eq_true rfl, Nat.le_of_ble_eq_true rfl⟩ (fun H1 locs1 hV1 => ?_)
    replace hV := hV1.swap
    clear hV1
    refine lv_icmp_eq (tgt := 986) hx hb dL_law_278 (by decide) (fun _ => ?_) (fun cz => absurd rfl cz)
    exact next _ _ hR1 _ _ hV
set_option maxHeartbeats 8000000 in
set_option maxRecDepth 100000 in
theorem law_case3 {p : Program} {l : Launch} {e : Env} {s : State} {m : MethodId} {below : List Frame} {meth : Method} {c : Code} {D : va_G} {cy : ClassId × ClassId} {b L t0 : Nat} {xs : Nat → Int32} {adX adM : Nat → Nat} {N : Nat} {Rl : Hp → Hp → Prop} (hk3 : ∀ (σ τ : Hp), Rl σ τ → ∀ (p0 : Int32), ∃ r : Int32, ∃ σ1 : Hp, ∃ τ1 : Hp, t_X6_say p0 σ = some (r, σ1) ∧ t_X7_say p0 τ = some (r, τ1) ∧ Rl σ1 τ1) (hC : Cx p m c cL_law 4 s #[Value.ref b] wsU RL D cy) (hX : va_X b L xs s s.heap) (hbl : b < s.heap.size) (hbA : ¬ (fun q : Nat => s.heap.size ≤ q) b) (hST : ST t0 (fun q => s.heap.size ≤ q) s) {x3 a1 a2 a3 : Int32} (hi1 : vp_in (x3 + 1) L) (hi2 : vp_in (x3 + 2) L) (hi3 : vp_in (x3 + 3) L) (ea1 : a1 = xs (x3 + 1).toNatClampNeg) (ea2 : a2 = xs (x3 + 2).toNatClampNeg) (ea3 : a3 = xs (x3 + 3).toNatClampNeg) {σ τ : Hp} (hR : Rl σ τ) {H : Heap} {locs : List Loc} (hV : LW D cy 55 shX adX 27 shM adM (fun q => s.heap.size ≤ q) s.heap σ τ H locs) {ls : Array Slot} (hl : lv_has ls 4 [(0, .ref b), (1, .ref (adX 0)), (2, .ref (adM 0)), (3, .int x3)]) (next : ∀ (σ1 τ1 : Hp), Rl σ1 τ1 → ∀ (H : Heap) (locs : List Loc), LW D cy 55 shX adX 27 shM adM (fun q => s.heap.size ≤ q) s.heap σ1 τ1 H locs → W p l e room_1 s m #[Value.ref b] below meth c H locs 600000 7302250 (lw_Z below #[Value.ref b] s) (F0 m 986 ls [])) : W p l e room_1 s m #[Value.ref b] below meth c H locs 600000 7302250 (lw_Z below #[Value.ref b] s) (F0 m 283 ls []) := by
  have hx := hC.1.1
  have hb := hC.1.2.1
  have hts := hC.1.2.2.2.2
  refine lv_aload_n hx hb dL_law_283 rfl (lv_at hl 1 rfl) ?_
  refine lv_aload_n hx hb dL_law_284 rfl (lv_at hl 0 rfl) ?_
  refine lv_iload_n hx hb dL_law_285 rfl (lv_at hl 3 rfl) ?_
  refine lv_iconst (v := 1) hx hb dL_law_286 (by decide) ?_
  refine lv_iadd hx hb dL_law_287 ?_
  refine va_sld hx hb hX hbl hbA hV.2.2.2.2.2.1 hi1 dL_law_288 ?_
  rw [← ea1]
  obtain ⟨r, σ1, τ1, e1, e2, hR1⟩ := hk3 σ τ hR a1
  refine law_i (As := [.int a1]) (rest := []) hC hV (fun A1 => c_X6_say l D cy adX A1 _ _ _ _ e1) (cwV 1 hts (gdV wd_815 wd_633 wd_634 wd_5 wd_632) rfl rfl rfl (by decide +kernel) ⟨Nat.le_of_ble_eq_true rfl, Nat.le_of_ble_eq_true rfl⟩) (Nat.le_of_ble_eq_true rfl) rfl rfl rfl hl.1 (Nat.le_of_ble_eq_true rfl) dL_law_289 ⟨Nat.le_of_ble_eq_true rfl, Nat.le_of_ble_eq_true rfl⟩ (fun H1 locs1 hV1 => ?_)
  replace hV := hV1
  clear hV1
  refine lv_aload_n hx hb dL_law_292 rfl (lv_at hl 2 rfl) ?_
  refine lv_aload_n hx hb dL_law_293 rfl (lv_at hl 0 rfl) ?_
  refine lv_iload_n hx hb dL_law_294 rfl (lv_at hl 3 rfl) ?_
  refine lv_iconst (v := 1) hx hb dL_law_295 (by decide) ?_
  refine lv_iadd hx hb dL_law_296 ?_
  refine va_sld hx hb hX hbl hbA hV.2.2.2.2.2.1 hi1 dL_law_297 ?_
  rw [← ea1]
  refine law_i (As := [.int a1]) (rest := [.int r]) hC hV.swap (fun A1 => c_X7_say l D cy adM A1 _ _ _ _ e2) (cwV 1 hts (gdV wd_816 wd_723 wd_724 wd_300 wd_722) rfl rfl rfl (by decide +kernel) ⟨Nat.le_of_ble_eq_true rfl, Nat.le_of_ble_eq_true rfl⟩) (Nat.le_of_ble_eq_true rfl) rfl rfl rfl hl.1 (Nat.le_of_ble_eq_true rfl) dL_law_298 ⟨Nat.le_of_ble_eq_true rfl, Nat.le_of_ble_eq_true rfl⟩ (fun H1 locs1 hV1 => ?_)
  replace hV := hV1.swap
  clear hV1
  refine lv_icmp_eq (tgt := 986) hx hb dL_law_301 (by decide) (fun _ => ?_) (fun cz => absurd rfl cz)
  exact next _ _ hR1 _ _ hV
set_option maxHeartbeats 8000000 in
set_option maxRecDepth 100000 in
theorem law_case4 {p : Program} {l : Launch} {e : Env} {s : State} {m : MethodId} {below : List Frame} {meth : Method} {c : Code} {D : va_G} {cy : ClassId × ClassId} {b L t0 : Nat} {xs : Nat → Int32} {adX adM : Nat → Nat} {N : Nat} {Rl : Hp → Hp → Prop} (hk4 : ∀ (σ τ : Hp), Rl σ τ → ∃ r : Int32, ∃ σ1 : Hp, ∃ τ1 : Hp, t_X6_wipe σ = some (r, σ1) ∧ t_X7_wipe τ = some (r, τ1) ∧ Rl σ1 τ1) (hC : Cx p m c cL_law 4 s #[Value.ref b] wsU RL D cy) (hX : va_X b L xs s s.heap) (hbl : b < s.heap.size) (hbA : ¬ (fun q : Nat => s.heap.size ≤ q) b) (hST : ST t0 (fun q => s.heap.size ≤ q) s) {x3 a1 a2 a3 : Int32} (hi1 : vp_in (x3 + 1) L) (hi2 : vp_in (x3 + 2) L) (hi3 : vp_in (x3 + 3) L) (ea1 : a1 = xs (x3 + 1).toNatClampNeg) (ea2 : a2 = xs (x3 + 2).toNatClampNeg) (ea3 : a3 = xs (x3 + 3).toNatClampNeg) {σ τ : Hp} (hR : Rl σ τ) {H : Heap} {locs : List Loc} (hV : LW D cy 55 shX adX 27 shM adM (fun q => s.heap.size ≤ q) s.heap σ τ H locs) {ls : Array Slot} (hl : lv_has ls 4 [(0, .ref b), (1, .ref (adX 0)), (2, .ref (adM 0)), (3, .int x3)]) (next : ∀ (σ1 τ1 : Hp), Rl σ1 τ1 → ∀ (H : Heap) (locs : List Loc), LW D cy 55 shX adX 27 shM adM (fun q => s.heap.size ≤ q) s.heap σ1 τ1 H locs → W p l e room_1 s m #[Value.ref b] below meth c H locs 600000 7302250 (lw_Z below #[Value.ref b] s) (F0 m 986 ls [])) : W p l e room_1 s m #[Value.ref b] below meth c H locs 600000 7302250 (lw_Z below #[Value.ref b] s) (F0 m 306 ls []) := by
  have hx := hC.1.1
  have hb := hC.1.2.1
  have hts := hC.1.2.2.2.2
  refine lv_aload_n hx hb dL_law_306 rfl (lv_at hl 1 rfl) ?_
  obtain ⟨r, σ1, τ1, e1, e2, hR1⟩ := hk4 σ τ hR
  refine law_i (As := []) (rest := []) hC hV (fun A1 => c_X6_wipe l D cy adX A1 _ _ _ e1) (cwV 0 hts (gdV wd_817 wd_636 wd_637 wd_5 wd_635) rfl rfl rfl (by decide +kernel) ⟨Nat.le_of_ble_eq_true rfl, Nat.le_of_ble_eq_true rfl⟩) (Nat.le_of_ble_eq_true rfl) rfl rfl rfl hl.1 (Nat.le_of_ble_eq_true rfl) dL_law_307 ⟨Nat.le_of_ble_eq_true rfl, Nat.le_of_ble_eq_true rfl⟩ (fun H1 locs1 hV1 => ?_)
  replace hV := hV1
  clear hV1
  refine lv_aload_n hx hb dL_law_310 rfl (lv_at hl 2 rfl) ?_
  refine law_i (As := []) (rest := [.int r]) hC hV.swap (fun A1 => c_X7_wipe l D cy adM A1 _ _ _ e2) (cwV 0 hts (gdV wd_818 wd_726 wd_727 wd_300 wd_725) rfl rfl rfl (by decide +kernel) ⟨Nat.le_of_ble_eq_true rfl, Nat.le_of_ble_eq_true rfl⟩) (Nat.le_of_ble_eq_true rfl) rfl rfl rfl hl.1 (Nat.le_of_ble_eq_true rfl) dL_law_311 ⟨Nat.le_of_ble_eq_true rfl, Nat.le_of_ble_eq_true rfl⟩ (fun H1 locs1 hV1 => ?_)
  replace hV := hV1.swap
  clear hV1
  refine lv_icmp_eq (tgt := 986) hx hb dL_law_314 (by decide) (fun _ => ?_) (fun cz => absurd rfl cz)
  exact next _ _ hR1 _ _ hV
set_option maxHeartbeats 8000000 in
set_option maxRecDepth 100000 in
theorem law_case5 {p : Program} {l : Launch} {e : Env} {s : State} {m : MethodId} {below : List Frame} {meth : Method} {c : Code} {D : va_G} {cy : ClassId × ClassId} {b L t0 : Nat} {xs : Nat → Int32} {adX adM : Nat → Nat} {N : Nat} {Rl : Hp → Hp → Prop} (hk5 : ∀ (σ τ : Hp), Rl σ τ → ∀ (p0 : Int32), ∃ r : Int32, ∃ τ1 : Hp, t_X6_fault N p0 σ = some r ∧ t_X7_fault N p0 τ = some (r, τ1) ∧ Rl σ τ1) (hC : Cx p m c cL_law 4 s #[Value.ref b] wsU RL D cy) (hX : va_X b L xs s s.heap) (hbl : b < s.heap.size) (hbA : ¬ (fun q : Nat => s.heap.size ≤ q) b) (hST : ST t0 (fun q => s.heap.size ≤ q) s) {x3 a1 a2 a3 : Int32} (hi1 : vp_in (x3 + 1) L) (hi2 : vp_in (x3 + 2) L) (hi3 : vp_in (x3 + 3) L) (ea1 : a1 = xs (x3 + 1).toNatClampNeg) (ea2 : a2 = xs (x3 + 2).toNatClampNeg) (ea3 : a3 = xs (x3 + 3).toNatClampNeg) {σ τ : Hp} (hR : Rl σ τ) {H : Heap} {locs : List Loc} (hV : LW D cy 55 shX adX 27 shM adM (fun q => s.heap.size ≤ q) s.heap σ τ H locs) {ls : Array Slot} (hl : lv_has ls 4 [(0, .ref b), (1, .ref (adX 0)), (2, .ref (adM 0)), (3, .int x3)]) (next : ∀ (σ1 τ1 : Hp), Rl σ1 τ1 → ∀ (H : Heap) (locs : List Loc), LW D cy 55 shX adX 27 shM adM (fun q => s.heap.size ≤ q) s.heap σ1 τ1 H locs → W p l e room_1 s m #[Value.ref b] below meth c H locs 600000 7302250 (lw_Z below #[Value.ref b] s) (F0 m 986 ls [])) : W p l e room_1 s m #[Value.ref b] below meth c H locs 600000 7302250 (lw_Z below #[Value.ref b] s) (F0 m 319 ls []) := by
  have hx := hC.1.1
  have hb := hC.1.2.1
  have hts := hC.1.2.2.2.2
  refine lv_aload_n hx hb dL_law_319 rfl (lv_at hl 1 rfl) ?_
  refine lv_aload_n hx hb dL_law_320 rfl (lv_at hl 0 rfl) ?_
  refine lv_iload_n hx hb dL_law_321 rfl (lv_at hl 3 rfl) ?_
  refine lv_iconst (v := 1) hx hb dL_law_322 (by decide) ?_
  refine lv_iadd hx hb dL_law_323 ?_
  refine va_sld hx hb hX hbl hbA hV.2.2.2.2.2.1 hi1 dL_law_324 ?_
  rw [← ea1]
  obtain ⟨r, τ1, e1, e2, hR1⟩ := hk5 σ τ hR a1
  refine law_i (As := [.int a1]) (rest := []) hC hV (fun A1 => c_X6_fault l D cy adX A1 N _ _ _ e1) (cwV 1 hts (gdV wd_819 wd_639 wd_640 wd_5 wd_638) rfl rfl rfl (by decide +kernel) ⟨Nat.le_of_ble_eq_true rfl, Nat.le_of_ble_eq_true rfl⟩) (Nat.le_of_ble_eq_true rfl) rfl rfl rfl hl.1 (Nat.le_of_ble_eq_true rfl) dL_law_325 ⟨Nat.le_of_ble_eq_true rfl, Nat.le_of_ble_eq_true rfl⟩ (fun H1 locs1 hV1 => ?_)
  replace hV := hV1
  clear hV1
  refine lv_aload_n hx hb dL_law_328 rfl (lv_at hl 2 rfl) ?_
  refine lv_aload_n hx hb dL_law_329 rfl (lv_at hl 0 rfl) ?_
  refine lv_iload_n hx hb dL_law_330 rfl (lv_at hl 3 rfl) ?_
  refine lv_iconst (v := 1) hx hb dL_law_331 (by decide) ?_
  refine lv_iadd hx hb dL_law_332 ?_
  refine va_sld hx hb hX hbl hbA hV.2.2.2.2.2.1 hi1 dL_law_333 ?_
  rw [← ea1]
  refine law_i (As := [.int a1]) (rest := [.int r]) hC hV.swap (fun A1 => c_X7_fault l D cy adM A1 N _ _ _ _ e2) (cwV 1 hts (gdV wd_820 wd_729 wd_730 wd_300 wd_728) rfl rfl rfl (by decide +kernel) ⟨Nat.le_of_ble_eq_true rfl, Nat.le_of_ble_eq_true rfl⟩) (Nat.le_of_ble_eq_true rfl) rfl rfl rfl hl.1 (Nat.le_of_ble_eq_true rfl) dL_law_334 ⟨Nat.le_of_ble_eq_true rfl, Nat.le_of_ble_eq_true rfl⟩ (fun H1 locs1 hV1 => ?_)
  replace hV := hV1.swap
  clear hV1
  refine lv_icmp_eq (tgt := 986) hx hb dL_law_337 (by decide) (fun _ => ?_) (fun cz => absurd rfl cz)
  exact next _ _ hR1 _ _ hV
set_option maxHeartbeats 8000000 in
set_option maxRecDepth 100000 in
theorem law_case6 {p : Program} {l : Launch} {e : Env} {s : State} {m : MethodId} {below : List Frame} {meth : Method} {c : Code} {D : va_G} {cy : ClassId × ClassId} {b L t0 : Nat} {xs : Nat → Int32} {adX adM : Nat → Nat} {N : Nat} {Rl : Hp → Hp → Prop} (hk6 : ∀ (σ τ : Hp), Rl σ τ → ∃ r : Int32, ∃ σ1 : Hp, ∃ τ1 : Hp, t_X6_order N σ = some (r, σ1) ∧ t_X7_order N τ = some (r, τ1) ∧ Rl σ1 τ1) (hC : Cx p m c cL_law 4 s #[Value.ref b] wsU RL D cy) (hX : va_X b L xs s s.heap) (hbl : b < s.heap.size) (hbA : ¬ (fun q : Nat => s.heap.size ≤ q) b) (hST : ST t0 (fun q => s.heap.size ≤ q) s) {x3 a1 a2 a3 : Int32} (hi1 : vp_in (x3 + 1) L) (hi2 : vp_in (x3 + 2) L) (hi3 : vp_in (x3 + 3) L) (ea1 : a1 = xs (x3 + 1).toNatClampNeg) (ea2 : a2 = xs (x3 + 2).toNatClampNeg) (ea3 : a3 = xs (x3 + 3).toNatClampNeg) {σ τ : Hp} (hR : Rl σ τ) {H : Heap} {locs : List Loc} (hV : LW D cy 55 shX adX 27 shM adM (fun q => s.heap.size ≤ q) s.heap σ τ H locs) {ls : Array Slot} (hl : lv_has ls 4 [(0, .ref b), (1, .ref (adX 0)), (2, .ref (adM 0)), (3, .int x3)]) (next : ∀ (σ1 τ1 : Hp), Rl σ1 τ1 → ∀ (H : Heap) (locs : List Loc), LW D cy 55 shX adX 27 shM adM (fun q => s.heap.size ≤ q) s.heap σ1 τ1 H locs → W p l e room_1 s m #[Value.ref b] below meth c H locs 600000 7302250 (lw_Z below #[Value.ref b] s) (F0 m 986 ls [])) : W p l e room_1 s m #[Value.ref b] below meth c H locs 600000 7302250 (lw_Z below #[Value.ref b] s) (F0 m 342 ls []) := by
  have hx := hC.1.1
  have hb := hC.1.2.1
  have hts := hC.1.2.2.2.2
  refine lv_aload_n hx hb dL_law_342 rfl (lv_at hl 1 rfl) ?_
  obtain ⟨r, σ1, τ1, e1, e2, hR1⟩ := hk6 σ τ hR
  refine law_i (As := []) (rest := []) hC hV (fun A1 => c_X6_order l D cy adX A1 N _ _ _ e1) (cwV 0 hts (gdV wd_821 wd_642 wd_643 wd_5 wd_641) rfl rfl rfl (by decide +kernel) ⟨Nat.le_of_ble_eq_true rfl, Nat.le_of_ble_eq_true rfl⟩) (Nat.le_of_ble_eq_true rfl) rfl rfl rfl hl.1 (Nat.le_of_ble_eq_true rfl) dL_law_343 ⟨Nat.le_of_ble_eq_true rfl, Nat.le_of_ble_eq_true rfl⟩ (fun H1 locs1 hV1 => ?_)
  replace hV := hV1
  clear hV1
  refine lv_aload_n hx hb dL_law_346 rfl (lv_at hl 2 rfl) ?_
  refine law_i (As := []) (rest := [.int r]) hC hV.swap (fun A1 => c_X7_order l D cy adM A1 N _ _ _ e2) (cwV 0 hts (gdV wd_822 wd_732 wd_733 wd_300 wd_731) rfl rfl rfl (by decide +kernel) ⟨Nat.le_of_ble_eq_true rfl, Nat.le_of_ble_eq_true rfl⟩) (Nat.le_of_ble_eq_true rfl) rfl rfl rfl hl.1 (Nat.le_of_ble_eq_true rfl) dL_law_347 ⟨Nat.le_of_ble_eq_true rfl, Nat.le_of_ble_eq_true rfl⟩ (fun H1 locs1 hV1 => ?_)
  replace hV := hV1.swap
  clear hV1
  refine lv_icmp_eq (tgt := 986) hx hb dL_law_350 (by decide) (fun _ => ?_) (fun cz => absurd rfl cz)
  exact next _ _ hR1 _ _ hV
set_option maxHeartbeats 8000000 in
set_option maxRecDepth 100000 in
theorem law_case7 {p : Program} {l : Launch} {e : Env} {s : State} {m : MethodId} {below : List Frame} {meth : Method} {c : Code} {D : va_G} {cy : ClassId × ClassId} {b L t0 : Nat} {xs : Nat → Int32} {adX adM : Nat → Nat} {N : Nat} {Rl : Hp → Hp → Prop} (hk7 : ∀ (σ τ : Hp), Rl σ τ → ∀ (p0 : Int32), ∃ r : Int32, ∃ σ1 : Hp, ∃ τ1 : Hp, t_X6_judge N p0 σ = some (r, σ1) ∧ t_X7_judge N p0 τ = some (r, τ1) ∧ Rl σ1 τ1) (hC : Cx p m c cL_law 4 s #[Value.ref b] wsU RL D cy) (hX : va_X b L xs s s.heap) (hbl : b < s.heap.size) (hbA : ¬ (fun q : Nat => s.heap.size ≤ q) b) (hST : ST t0 (fun q => s.heap.size ≤ q) s) {x3 a1 a2 a3 : Int32} (hi1 : vp_in (x3 + 1) L) (hi2 : vp_in (x3 + 2) L) (hi3 : vp_in (x3 + 3) L) (ea1 : a1 = xs (x3 + 1).toNatClampNeg) (ea2 : a2 = xs (x3 + 2).toNatClampNeg) (ea3 : a3 = xs (x3 + 3).toNatClampNeg) {σ τ : Hp} (hR : Rl σ τ) {H : Heap} {locs : List Loc} (hV : LW D cy 55 shX adX 27 shM adM (fun q => s.heap.size ≤ q) s.heap σ τ H locs) {ls : Array Slot} (hl : lv_has ls 4 [(0, .ref b), (1, .ref (adX 0)), (2, .ref (adM 0)), (3, .int x3)]) (next : ∀ (σ1 τ1 : Hp), Rl σ1 τ1 → ∀ (H : Heap) (locs : List Loc), LW D cy 55 shX adX 27 shM adM (fun q => s.heap.size ≤ q) s.heap σ1 τ1 H locs → W p l e room_1 s m #[Value.ref b] below meth c H locs 600000 7302250 (lw_Z below #[Value.ref b] s) (F0 m 986 ls [])) : W p l e room_1 s m #[Value.ref b] below meth c H locs 600000 7302250 (lw_Z below #[Value.ref b] s) (F0 m 355 ls []) := by
  have hx := hC.1.1
  have hb := hC.1.2.1
  have hts := hC.1.2.2.2.2
  refine lv_aload_n hx hb dL_law_355 rfl (lv_at hl 1 rfl) ?_
  refine lv_aload_n hx hb dL_law_356 rfl (lv_at hl 0 rfl) ?_
  refine lv_iload_n hx hb dL_law_357 rfl (lv_at hl 3 rfl) ?_
  refine lv_iconst (v := 1) hx hb dL_law_358 (by decide) ?_
  refine lv_iadd hx hb dL_law_359 ?_
  refine va_sld hx hb hX hbl hbA hV.2.2.2.2.2.1 hi1 dL_law_360 ?_
  rw [← ea1]
  obtain ⟨r, σ1, τ1, e1, e2, hR1⟩ := hk7 σ τ hR a1
  refine law_i (As := [.int a1]) (rest := []) hC hV (fun A1 => c_X6_judge l D cy adX A1 N _ _ _ _ e1) (cwV 1 hts (gdV wd_823 wd_645 wd_646 wd_5 wd_644) rfl rfl rfl (by decide +kernel) ⟨Nat.le_of_ble_eq_true rfl, Nat.le_of_ble_eq_true rfl⟩) (Nat.le_of_ble_eq_true rfl) rfl rfl rfl hl.1 (Nat.le_of_ble_eq_true rfl) dL_law_361 ⟨Nat.le_of_ble_eq_true rfl, Nat.le_of_ble_eq_true rfl⟩ (fun H1 locs1 hV1 => ?_)
  replace hV := hV1
  clear hV1
  refine lv_aload_n hx hb dL_law_364 rfl (lv_at hl 2 rfl) ?_
  refine lv_aload_n hx hb dL_law_365 rfl (lv_at hl 0 rfl) ?_
  refine lv_iload_n hx hb dL_law_366 rfl (lv_at hl 3 rfl) ?_
  refine lv_iconst (v := 1) hx hb dL_law_367 (by decide) ?_
  refine lv_iadd hx hb dL_law_368 ?_
  refine va_sld hx hb hX hbl hbA hV.2.2.2.2.2.1 hi1 dL_law_369 ?_
  rw [← ea1]
  refine law_i (As := [.int a1]) (rest := [.int r]) hC hV.swap (fun A1 => c_X7_judge l D cy adM A1 N _ _ _ _ e2) (cwV 1 hts (gdV wd_824 wd_735 wd_736 wd_300 wd_734) rfl rfl rfl (by decide +kernel) ⟨Nat.le_of_ble_eq_true rfl, Nat.le_of_ble_eq_true rfl⟩) (Nat.le_of_ble_eq_true rfl) rfl rfl rfl hl.1 (Nat.le_of_ble_eq_true rfl) dL_law_370 ⟨Nat.le_of_ble_eq_true rfl, Nat.le_of_ble_eq_true rfl⟩ (fun H1 locs1 hV1 => ?_)
  replace hV := hV1.swap
  clear hV1
  refine lv_icmp_eq (tgt := 986) hx hb dL_law_373 (by decide) (fun _ => ?_) (fun cz => absurd rfl cz)
  exact next _ _ hR1 _ _ hV
set_option maxHeartbeats 8000000 in
set_option maxRecDepth 100000 in
theorem law_case8 {p : Program} {l : Launch} {e : Env} {s : State} {m : MethodId} {below : List Frame} {meth : Method} {c : Code} {D : va_G} {cy : ClassId × ClassId} {b L t0 : Nat} {xs : Nat → Int32} {adX adM : Nat → Nat} {N : Nat} {Rl : Hp → Hp → Prop} (hk8 : ∀ (σ τ : Hp), Rl σ τ → ∀ (p0 : Int32) (p1 : Int32), ∃ r : Int32, ∃ σ1 : Hp, ∃ τ1 : Hp, t_X6_behind N p0 p1 σ = some (r, σ1) ∧ t_X7_behind N p0 p1 τ = some (r, τ1) ∧ Rl σ1 τ1) (hC : Cx p m c cL_law 4 s #[Value.ref b] wsU RL D cy) (hX : va_X b L xs s s.heap) (hbl : b < s.heap.size) (hbA : ¬ (fun q : Nat => s.heap.size ≤ q) b) (hST : ST t0 (fun q => s.heap.size ≤ q) s) {x3 a1 a2 a3 : Int32} (hi1 : vp_in (x3 + 1) L) (hi2 : vp_in (x3 + 2) L) (hi3 : vp_in (x3 + 3) L) (ea1 : a1 = xs (x3 + 1).toNatClampNeg) (ea2 : a2 = xs (x3 + 2).toNatClampNeg) (ea3 : a3 = xs (x3 + 3).toNatClampNeg) {σ τ : Hp} (hR : Rl σ τ) {H : Heap} {locs : List Loc} (hV : LW D cy 55 shX adX 27 shM adM (fun q => s.heap.size ≤ q) s.heap σ τ H locs) {ls : Array Slot} (hl : lv_has ls 4 [(0, .ref b), (1, .ref (adX 0)), (2, .ref (adM 0)), (3, .int x3)]) (next : ∀ (σ1 τ1 : Hp), Rl σ1 τ1 → ∀ (H : Heap) (locs : List Loc), LW D cy 55 shX adX 27 shM adM (fun q => s.heap.size ≤ q) s.heap σ1 τ1 H locs → W p l e room_1 s m #[Value.ref b] below meth c H locs 600000 7302250 (lw_Z below #[Value.ref b] s) (F0 m 986 ls [])) : W p l e room_1 s m #[Value.ref b] below meth c H locs 600000 7302250 (lw_Z below #[Value.ref b] s) (F0 m 378 ls []) := by
  have hx := hC.1.1
  have hb := hC.1.2.1
  have hts := hC.1.2.2.2.2
  refine lv_aload_n hx hb dL_law_378 rfl (lv_at hl 1 rfl) ?_
  refine lv_aload_n hx hb dL_law_379 rfl (lv_at hl 0 rfl) ?_
  refine lv_iload_n hx hb dL_law_380 rfl (lv_at hl 3 rfl) ?_
  refine lv_iconst (v := 1) hx hb dL_law_381 (by decide) ?_
  refine lv_iadd hx hb dL_law_382 ?_
  refine va_sld hx hb hX hbl hbA hV.2.2.2.2.2.1 hi1 dL_law_383 ?_
  rw [← ea1]
  refine lv_aload_n hx hb dL_law_384 rfl (lv_at hl 0 rfl) ?_
  refine lv_iload_n hx hb dL_law_385 rfl (lv_at hl 3 rfl) ?_
  refine lv_iconst (v := 2) hx hb dL_law_386 (by decide) ?_
  refine lv_iadd hx hb dL_law_387 ?_
  refine va_sld hx hb hX hbl hbA hV.2.2.2.2.2.1 hi2 dL_law_388 ?_
  rw [← ea2]
  obtain ⟨r, σ1, τ1, e1, e2, hR1⟩ := hk8 σ τ hR a1 a2
  refine law_i (As := [.int a1, .int a2]) (rest := []) hC hV (fun A1 => c_X6_behind l D cy adX A1 N _ _ _ _ _ e1) (cwV 2 hts (gdV wd_825 wd_648 wd_649 wd_5 wd_647) rfl rfl rfl (by decide +kernel) ⟨Nat.le_of_ble_eq_true rfl, Nat.le_of_ble_eq_true rfl⟩) (Nat.le_of_ble_eq_true rfl) rfl rfl rfl hl.1 (Nat.le_of_ble_eq_true rfl) dL_law_389 ⟨Nat.le_of_ble_eq_true rfl, Nat.le_of_ble_eq_true rfl⟩ (fun H1 locs1 hV1 => ?_)
  replace hV := hV1
  clear hV1
  refine lv_aload_n hx hb dL_law_392 rfl (lv_at hl 2 rfl) ?_
  refine lv_aload_n hx hb dL_law_393 rfl (lv_at hl 0 rfl) ?_
  refine lv_iload_n hx hb dL_law_394 rfl (lv_at hl 3 rfl) ?_
  refine lv_iconst (v := 1) hx hb dL_law_395 (by decide) ?_
  refine lv_iadd hx hb dL_law_396 ?_
  refine va_sld hx hb hX hbl hbA hV.2.2.2.2.2.1 hi1 dL_law_397 ?_
  rw [← ea1]
  refine lv_aload_n hx hb dL_law_398 rfl (lv_at hl 0 rfl) ?_
  refine lv_iload_n hx hb dL_law_399 rfl (lv_at hl 3 rfl) ?_
  refine lv_iconst (v := 2) hx hb dL_law_400 (by decide) ?_
  refine lv_iadd hx hb dL_law_401 ?_
  refine va_sld hx hb hX hbl hbA hV.2.2.2.2.2.1 hi2 dL_law_402 ?_
  rw [← ea2]
  refine law_i (As := [.int a1, .int a2]) (rest := [.int r]) hC hV.swap (fun A1 => c_X7_behind l D cy adM A1 N _ _ _ _ _ e2) (cwV 2 hts (gdV wd_826 wd_738 wd_739 wd_300 wd_737) rfl rfl rfl (by decide +kernel) ⟨Nat.le_of_ble_eq_true rfl, Nat.le_of_ble_eq_true rfl⟩) (Nat.le_of_ble_eq_true rfl) rfl rfl rfl hl.1 (Nat.le_of_ble_eq_true rfl) dL_law_403 ⟨Nat.le_of_ble_eq_true rfl, Nat.le_of_ble_eq_true rfl⟩ (fun H1 locs1 hV1 => ?_)
  replace hV := hV1.swap
  clear hV1
  refine lv_icmp_eq (tgt := 986) hx hb dL_law_406 (by decide) (fun _ => ?_) (fun cz => absurd rfl cz)
  exact next _ _ hR1 _ _ hV
set_option maxHeartbeats 8000000 in
set_option maxRecDepth 100000 in
theorem law_case9 {p : Program} {l : Launch} {e : Env} {s : State} {m : MethodId} {below : List Frame} {meth : Method} {c : Code} {D : va_G} {cy : ClassId × ClassId} {b L t0 : Nat} {xs : Nat → Int32} {adX adM : Nat → Nat} {N : Nat} {Rl : Hp → Hp → Prop} (hk9 : ∀ (σ τ : Hp), Rl σ τ → ∀ (p0 : Int32), ∃ r : Int32, ∃ σ1 : Hp, ∃ τ1 : Hp, t_X6_hatched N p0 σ = some (r, σ1) ∧ t_X7_hatched N p0 τ = some (r, τ1) ∧ Rl σ1 τ1) (hC : Cx p m c cL_law 4 s #[Value.ref b] wsU RL D cy) (hX : va_X b L xs s s.heap) (hbl : b < s.heap.size) (hbA : ¬ (fun q : Nat => s.heap.size ≤ q) b) (hST : ST t0 (fun q => s.heap.size ≤ q) s) {x3 a1 a2 a3 : Int32} (hi1 : vp_in (x3 + 1) L) (hi2 : vp_in (x3 + 2) L) (hi3 : vp_in (x3 + 3) L) (ea1 : a1 = xs (x3 + 1).toNatClampNeg) (ea2 : a2 = xs (x3 + 2).toNatClampNeg) (ea3 : a3 = xs (x3 + 3).toNatClampNeg) {σ τ : Hp} (hR : Rl σ τ) {H : Heap} {locs : List Loc} (hV : LW D cy 55 shX adX 27 shM adM (fun q => s.heap.size ≤ q) s.heap σ τ H locs) {ls : Array Slot} (hl : lv_has ls 4 [(0, .ref b), (1, .ref (adX 0)), (2, .ref (adM 0)), (3, .int x3)]) (next : ∀ (σ1 τ1 : Hp), Rl σ1 τ1 → ∀ (H : Heap) (locs : List Loc), LW D cy 55 shX adX 27 shM adM (fun q => s.heap.size ≤ q) s.heap σ1 τ1 H locs → W p l e room_1 s m #[Value.ref b] below meth c H locs 600000 7302250 (lw_Z below #[Value.ref b] s) (F0 m 986 ls [])) : W p l e room_1 s m #[Value.ref b] below meth c H locs 600000 7302250 (lw_Z below #[Value.ref b] s) (F0 m 411 ls []) := by
  have hx := hC.1.1
  have hb := hC.1.2.1
  have hts := hC.1.2.2.2.2
  refine lv_aload_n hx hb dL_law_411 rfl (lv_at hl 1 rfl) ?_
  refine lv_aload_n hx hb dL_law_412 rfl (lv_at hl 0 rfl) ?_
  refine lv_iload_n hx hb dL_law_413 rfl (lv_at hl 3 rfl) ?_
  refine lv_iconst (v := 1) hx hb dL_law_414 (by decide) ?_
  refine lv_iadd hx hb dL_law_415 ?_
  refine va_sld hx hb hX hbl hbA hV.2.2.2.2.2.1 hi1 dL_law_416 ?_
  rw [← ea1]
  obtain ⟨r, σ1, τ1, e1, e2, hR1⟩ := hk9 σ τ hR a1
  refine law_i (As := [.int a1]) (rest := []) hC hV (fun A1 => c_X6_hatched l D cy adX A1 N _ _ _ _ e1) (cwV 1 hts (gdV wd_827 wd_651 wd_652 wd_5 wd_650) rfl rfl rfl (by decide +kernel) ⟨Nat.le_of_ble_eq_true rfl, Nat.le_of_ble_eq_true rfl⟩) (Nat.le_of_ble_eq_true rfl) rfl rfl rfl hl.1 (Nat.le_of_ble_eq_true rfl) dL_law_417 ⟨Nat.le_of_ble_eq_true rfl, Nat.le_of_ble_eq_true rfl⟩ (fun H1 locs1 hV1 => ?_)
  replace hV := hV1
  clear hV1
  refine lv_aload_n hx hb dL_law_420 rfl (lv_at hl 2 rfl) ?_
  refine lv_aload_n hx hb dL_law_421 rfl (lv_at hl 0 rfl) ?_
  refine lv_iload_n hx hb dL_law_422 rfl (lv_at hl 3 rfl) ?_
  refine lv_iconst (v := 1) hx hb dL_law_423 (by decide) ?_
  refine lv_iadd hx hb dL_law_424 ?_
  refine va_sld hx hb hX hbl hbA hV.2.2.2.2.2.1 hi1 dL_law_425 ?_
  rw [← ea1]
  refine law_i (As := [.int a1]) (rest := [.int r]) hC hV.swap (fun A1 => c_X7_hatched l D cy adM A1 N _ _ _ _ e2) (cwV 1 hts (gdV wd_828 wd_741 wd_742 wd_300 wd_740) rfl rfl rfl (by decide +kernel) ⟨Nat.le_of_ble_eq_true rfl, Nat.le_of_ble_eq_true rfl⟩) (Nat.le_of_ble_eq_true rfl) rfl rfl rfl hl.1 (Nat.le_of_ble_eq_true rfl) dL_law_426 ⟨Nat.le_of_ble_eq_true rfl, Nat.le_of_ble_eq_true rfl⟩ (fun H1 locs1 hV1 => ?_)
  replace hV := hV1.swap
  clear hV1
  refine lv_icmp_eq (tgt := 986) hx hb dL_law_429 (by decide) (fun _ => ?_) (fun cz => absurd rfl cz)
  exact next _ _ hR1 _ _ hV
set_option maxHeartbeats 8000000 in
set_option maxRecDepth 100000 in
theorem law_case10 {p : Program} {l : Launch} {e : Env} {s : State} {m : MethodId} {below : List Frame} {meth : Method} {c : Code} {D : va_G} {cy : ClassId × ClassId} {b L t0 : Nat} {xs : Nat → Int32} {adX adM : Nat → Nat} {N : Nat} {Rl : Hp → Hp → Prop} (hk10 : ∀ (σ τ : Hp), Rl σ τ → ∀ (p0 : Int32), ∃ r : Int32, ∃ σ1 : Hp, ∃ τ1 : Hp, t_X6_stops N p0 σ = some (r, σ1) ∧ t_X7_stops N p0 τ = some (r, τ1) ∧ Rl σ1 τ1) (hC : Cx p m c cL_law 4 s #[Value.ref b] wsU RL D cy) (hX : va_X b L xs s s.heap) (hbl : b < s.heap.size) (hbA : ¬ (fun q : Nat => s.heap.size ≤ q) b) (hST : ST t0 (fun q => s.heap.size ≤ q) s) {x3 a1 a2 a3 : Int32} (hi1 : vp_in (x3 + 1) L) (hi2 : vp_in (x3 + 2) L) (hi3 : vp_in (x3 + 3) L) (ea1 : a1 = xs (x3 + 1).toNatClampNeg) (ea2 : a2 = xs (x3 + 2).toNatClampNeg) (ea3 : a3 = xs (x3 + 3).toNatClampNeg) {σ τ : Hp} (hR : Rl σ τ) {H : Heap} {locs : List Loc} (hV : LW D cy 55 shX adX 27 shM adM (fun q => s.heap.size ≤ q) s.heap σ τ H locs) {ls : Array Slot} (hl : lv_has ls 4 [(0, .ref b), (1, .ref (adX 0)), (2, .ref (adM 0)), (3, .int x3)]) (next : ∀ (σ1 τ1 : Hp), Rl σ1 τ1 → ∀ (H : Heap) (locs : List Loc), LW D cy 55 shX adX 27 shM adM (fun q => s.heap.size ≤ q) s.heap σ1 τ1 H locs → W p l e room_1 s m #[Value.ref b] below meth c H locs 600000 7302250 (lw_Z below #[Value.ref b] s) (F0 m 986 ls [])) : W p l e room_1 s m #[Value.ref b] below meth c H locs 600000 7302250 (lw_Z below #[Value.ref b] s) (F0 m 434 ls []) := by
  have hx := hC.1.1
  have hb := hC.1.2.1
  have hts := hC.1.2.2.2.2
  refine lv_aload_n hx hb dL_law_434 rfl (lv_at hl 1 rfl) ?_
  refine lv_aload_n hx hb dL_law_435 rfl (lv_at hl 0 rfl) ?_
  refine lv_iload_n hx hb dL_law_436 rfl (lv_at hl 3 rfl) ?_
  refine lv_iconst (v := 1) hx hb dL_law_437 (by decide) ?_
  refine lv_iadd hx hb dL_law_438 ?_
  refine va_sld hx hb hX hbl hbA hV.2.2.2.2.2.1 hi1 dL_law_439 ?_
  rw [← ea1]
  obtain ⟨r, σ1, τ1, e1, e2, hR1⟩ := hk10 σ τ hR a1
  refine law_i (As := [.int a1]) (rest := []) hC hV (fun A1 => c_X6_stops l D cy adX A1 N _ _ _ _ e1) (cwV 1 hts (gdV wd_829 wd_654 wd_655 wd_5 wd_653) rfl rfl rfl (by decide +kernel) ⟨Nat.le_of_ble_eq_true rfl, Nat.le_of_ble_eq_true rfl⟩) (Nat.le_of_ble_eq_true rfl) rfl rfl rfl hl.1 (Nat.le_of_ble_eq_true rfl) dL_law_440 ⟨Nat.le_of_ble_eq_true rfl, Nat.le_of_ble_eq_true rfl⟩ (fun H1 locs1 hV1 => ?_)
  replace hV := hV1
  clear hV1
  refine lv_aload_n hx hb dL_law_443 rfl (lv_at hl 2 rfl) ?_
  refine lv_aload_n hx hb dL_law_444 rfl (lv_at hl 0 rfl) ?_
  refine lv_iload_n hx hb dL_law_445 rfl (lv_at hl 3 rfl) ?_
  refine lv_iconst (v := 1) hx hb dL_law_446 (by decide) ?_
  refine lv_iadd hx hb dL_law_447 ?_
  refine va_sld hx hb hX hbl hbA hV.2.2.2.2.2.1 hi1 dL_law_448 ?_
  rw [← ea1]
  refine law_i (As := [.int a1]) (rest := [.int r]) hC hV.swap (fun A1 => c_X7_stops l D cy adM A1 N _ _ _ _ e2) (cwV 1 hts (gdV wd_830 wd_744 wd_745 wd_300 wd_743) rfl rfl rfl (by decide +kernel) ⟨Nat.le_of_ble_eq_true rfl, Nat.le_of_ble_eq_true rfl⟩) (Nat.le_of_ble_eq_true rfl) rfl rfl rfl hl.1 (Nat.le_of_ble_eq_true rfl) dL_law_449 ⟨Nat.le_of_ble_eq_true rfl, Nat.le_of_ble_eq_true rfl⟩ (fun H1 locs1 hV1 => ?_)
  replace hV := hV1.swap
  clear hV1
  refine lv_icmp_eq (tgt := 986) hx hb dL_law_452 (by decide) (fun _ => ?_) (fun cz => absurd rfl cz)
  exact next _ _ hR1 _ _ hV
set_option maxHeartbeats 8000000 in
set_option maxRecDepth 100000 in
theorem law_case11 {p : Program} {l : Launch} {e : Env} {s : State} {m : MethodId} {below : List Frame} {meth : Method} {c : Code} {D : va_G} {cy : ClassId × ClassId} {b L t0 : Nat} {xs : Nat → Int32} {adX adM : Nat → Nat} {N : Nat} {Rl : Hp → Hp → Prop} (hk11 : ∀ (σ τ : Hp), Rl σ τ → ∃ r : Int32, ∃ σ1 : Hp, ∃ τ1 : Hp, t_X6_done N σ = some (r, σ1) ∧ t_X7_done N τ = some (r, τ1) ∧ Rl σ1 τ1) (hC : Cx p m c cL_law 4 s #[Value.ref b] wsU RL D cy) (hX : va_X b L xs s s.heap) (hbl : b < s.heap.size) (hbA : ¬ (fun q : Nat => s.heap.size ≤ q) b) (hST : ST t0 (fun q => s.heap.size ≤ q) s) {x3 a1 a2 a3 : Int32} (hi1 : vp_in (x3 + 1) L) (hi2 : vp_in (x3 + 2) L) (hi3 : vp_in (x3 + 3) L) (ea1 : a1 = xs (x3 + 1).toNatClampNeg) (ea2 : a2 = xs (x3 + 2).toNatClampNeg) (ea3 : a3 = xs (x3 + 3).toNatClampNeg) {σ τ : Hp} (hR : Rl σ τ) {H : Heap} {locs : List Loc} (hV : LW D cy 55 shX adX 27 shM adM (fun q => s.heap.size ≤ q) s.heap σ τ H locs) {ls : Array Slot} (hl : lv_has ls 4 [(0, .ref b), (1, .ref (adX 0)), (2, .ref (adM 0)), (3, .int x3)]) (next : ∀ (σ1 τ1 : Hp), Rl σ1 τ1 → ∀ (H : Heap) (locs : List Loc), LW D cy 55 shX adX 27 shM adM (fun q => s.heap.size ≤ q) s.heap σ1 τ1 H locs → W p l e room_1 s m #[Value.ref b] below meth c H locs 600000 7302250 (lw_Z below #[Value.ref b] s) (F0 m 986 ls [])) : W p l e room_1 s m #[Value.ref b] below meth c H locs 600000 7302250 (lw_Z below #[Value.ref b] s) (F0 m 457 ls []) := by
  have hx := hC.1.1
  have hb := hC.1.2.1
  have hts := hC.1.2.2.2.2
  refine lv_aload_n hx hb dL_law_457 rfl (lv_at hl 1 rfl) ?_
  obtain ⟨r, σ1, τ1, e1, e2, hR1⟩ := hk11 σ τ hR
  refine law_i (As := []) (rest := []) hC hV (fun A1 => c_X6_done l D cy adX A1 N _ _ _ e1) (cwV 0 hts (gdV wd_831 wd_657 wd_658 wd_5 wd_656) rfl rfl rfl (by decide +kernel) ⟨Nat.le_of_ble_eq_true rfl, Nat.le_of_ble_eq_true rfl⟩) (Nat.le_of_ble_eq_true rfl) rfl rfl rfl hl.1 (Nat.le_of_ble_eq_true rfl) dL_law_458 ⟨Nat.le_of_ble_eq_true rfl, Nat.le_of_ble_eq_true rfl⟩ (fun H1 locs1 hV1 => ?_)
  replace hV := hV1
  clear hV1
  refine lv_aload_n hx hb dL_law_461 rfl (lv_at hl 2 rfl) ?_
  refine law_i (As := []) (rest := [.int r]) hC hV.swap (fun A1 => c_X7_done l D cy adM A1 N _ _ _ e2) (cwV 0 hts (gdV wd_832 wd_747 wd_748 wd_300 wd_746) rfl rfl rfl (by decide +kernel) ⟨Nat.le_of_ble_eq_true rfl, Nat.le_of_ble_eq_true rfl⟩) (Nat.le_of_ble_eq_true rfl) rfl rfl rfl hl.1 (Nat.le_of_ble_eq_true rfl) dL_law_462 ⟨Nat.le_of_ble_eq_true rfl, Nat.le_of_ble_eq_true rfl⟩ (fun H1 locs1 hV1 => ?_)
  replace hV := hV1.swap
  clear hV1
  refine lv_icmp_eq (tgt := 986) hx hb dL_law_465 (by decide) (fun _ => ?_) (fun cz => absurd rfl cz)
  exact next _ _ hR1 _ _ hV
set_option maxHeartbeats 8000000 in
set_option maxRecDepth 100000 in
theorem law_case12 {p : Program} {l : Launch} {e : Env} {s : State} {m : MethodId} {below : List Frame} {meth : Method} {c : Code} {D : va_G} {cy : ClassId × ClassId} {b L t0 : Nat} {xs : Nat → Int32} {adX adM : Nat → Nat} {N : Nat} {Rl : Hp → Hp → Prop} (hk12 : ∀ (σ τ : Hp), Rl σ τ → ∀ (p0 : Int32) (p1 : Int32), ∃ r : Int32, t_X6_state p0 p1 σ = some r ∧ t_X7_state p0 p1 τ = some r ∧ Rl σ τ) (hC : Cx p m c cL_law 4 s #[Value.ref b] wsU RL D cy) (hX : va_X b L xs s s.heap) (hbl : b < s.heap.size) (hbA : ¬ (fun q : Nat => s.heap.size ≤ q) b) (hST : ST t0 (fun q => s.heap.size ≤ q) s) {x3 a1 a2 a3 : Int32} (hi1 : vp_in (x3 + 1) L) (hi2 : vp_in (x3 + 2) L) (hi3 : vp_in (x3 + 3) L) (ea1 : a1 = xs (x3 + 1).toNatClampNeg) (ea2 : a2 = xs (x3 + 2).toNatClampNeg) (ea3 : a3 = xs (x3 + 3).toNatClampNeg) {σ τ : Hp} (hR : Rl σ τ) {H : Heap} {locs : List Loc} (hV : LW D cy 55 shX adX 27 shM adM (fun q => s.heap.size ≤ q) s.heap σ τ H locs) {ls : Array Slot} (hl : lv_has ls 4 [(0, .ref b), (1, .ref (adX 0)), (2, .ref (adM 0)), (3, .int x3)]) (next : ∀ (σ1 τ1 : Hp), Rl σ1 τ1 → ∀ (H : Heap) (locs : List Loc), LW D cy 55 shX adX 27 shM adM (fun q => s.heap.size ≤ q) s.heap σ1 τ1 H locs → W p l e room_1 s m #[Value.ref b] below meth c H locs 600000 7302250 (lw_Z below #[Value.ref b] s) (F0 m 986 ls [])) : W p l e room_1 s m #[Value.ref b] below meth c H locs 600000 7302250 (lw_Z below #[Value.ref b] s) (F0 m 470 ls []) := by
  have hx := hC.1.1
  have hb := hC.1.2.1
  have hts := hC.1.2.2.2.2
  refine lv_aload_n hx hb dL_law_470 rfl (lv_at hl 1 rfl) ?_
  refine lv_aload_n hx hb dL_law_471 rfl (lv_at hl 0 rfl) ?_
  refine lv_iload_n hx hb dL_law_472 rfl (lv_at hl 3 rfl) ?_
  refine lv_iconst (v := 1) hx hb dL_law_473 (by decide) ?_
  refine lv_iadd hx hb dL_law_474 ?_
  refine va_sld hx hb hX hbl hbA hV.2.2.2.2.2.1 hi1 dL_law_475 ?_
  rw [← ea1]
  refine lv_aload_n hx hb dL_law_476 rfl (lv_at hl 0 rfl) ?_
  refine lv_iload_n hx hb dL_law_477 rfl (lv_at hl 3 rfl) ?_
  refine lv_iconst (v := 2) hx hb dL_law_478 (by decide) ?_
  refine lv_iadd hx hb dL_law_479 ?_
  refine va_sld hx hb hX hbl hbA hV.2.2.2.2.2.1 hi2 dL_law_480 ?_
  rw [← ea2]
  obtain ⟨r, e1, e2, hR1⟩ := hk12 σ τ hR a1 a2
  refine law_i (As := [.int a1, .int a2]) (rest := []) hC hV (fun A1 => c_X6_state l D cy adX A1 _ _ _ _ e1) (cwV 2 hts (gdV wd_833 wd_660 wd_661 wd_5 wd_659) rfl rfl rfl (by decide +kernel) ⟨Nat.le_of_ble_eq_true rfl, Nat.le_of_ble_eq_true rfl⟩) (Nat.le_of_ble_eq_true rfl) rfl rfl rfl hl.1 (Nat.le_of_ble_eq_true rfl) dL_law_481 ⟨Nat.le_of_ble_eq_true rfl, Nat.le_of_ble_eq_true rfl⟩ (fun H1 locs1 hV1 => ?_)
  replace hV := hV1
  clear hV1
  refine lv_aload_n hx hb dL_law_484 rfl (lv_at hl 2 rfl) ?_
  refine lv_aload_n hx hb dL_law_485 rfl (lv_at hl 0 rfl) ?_
  refine lv_iload_n hx hb dL_law_486 rfl (lv_at hl 3 rfl) ?_
  refine lv_iconst (v := 1) hx hb dL_law_487 (by decide) ?_
  refine lv_iadd hx hb dL_law_488 ?_
  refine va_sld hx hb hX hbl hbA hV.2.2.2.2.2.1 hi1 dL_law_489 ?_
  rw [← ea1]
  refine lv_aload_n hx hb dL_law_490 rfl (lv_at hl 0 rfl) ?_
  refine lv_iload_n hx hb dL_law_491 rfl (lv_at hl 3 rfl) ?_
  refine lv_iconst (v := 2) hx hb dL_law_492 (by decide) ?_
  refine lv_iadd hx hb dL_law_493 ?_
  refine va_sld hx hb hX hbl hbA hV.2.2.2.2.2.1 hi2 dL_law_494 ?_
  rw [← ea2]
  refine law_i (As := [.int a1, .int a2]) (rest := [.int r]) hC hV.swap (fun A1 => c_X7_state l D cy adM A1 _ _ _ _ e2) (cwV 2 hts (gdV wd_834 wd_750 wd_751 wd_300 wd_749) rfl rfl rfl (by decide +kernel) ⟨Nat.le_of_ble_eq_true rfl, Nat.le_of_ble_eq_true rfl⟩) (Nat.le_of_ble_eq_true rfl) rfl rfl rfl hl.1 (Nat.le_of_ble_eq_true rfl) dL_law_495 ⟨Nat.le_of_ble_eq_true rfl, Nat.le_of_ble_eq_true rfl⟩ (fun H1 locs1 hV1 => ?_)
  replace hV := hV1.swap
  clear hV1
  refine lv_icmp_eq (tgt := 986) hx hb dL_law_498 (by decide) (fun _ => ?_) (fun cz => absurd rfl cz)
  exact next _ _ hR1 _ _ hV
set_option maxHeartbeats 8000000 in
set_option maxRecDepth 100000 in
theorem law_case13 {p : Program} {l : Launch} {e : Env} {s : State} {m : MethodId} {below : List Frame} {meth : Method} {c : Code} {D : va_G} {cy : ClassId × ClassId} {b L t0 : Nat} {xs : Nat → Int32} {adX adM : Nat → Nat} {N : Nat} {Rl : Hp → Hp → Prop} (hk13 : ∀ (σ τ : Hp), Rl σ τ → ∀ (p0 : Int32) (p1 : Int32) (p2 : Int32), ∃ r : Int32, ∃ σ1 : Hp, ∃ τ1 : Hp, t_X6_clue p0 p1 p2 σ = some (r, σ1) ∧ t_X7_clue p0 p1 p2 τ = some (r, τ1) ∧ Rl σ1 τ1) (hC : Cx p m c cL_law 4 s #[Value.ref b] wsU RL D cy) (hX : va_X b L xs s s.heap) (hbl : b < s.heap.size) (hbA : ¬ (fun q : Nat => s.heap.size ≤ q) b) (hST : ST t0 (fun q => s.heap.size ≤ q) s) {x3 a1 a2 a3 : Int32} (hi1 : vp_in (x3 + 1) L) (hi2 : vp_in (x3 + 2) L) (hi3 : vp_in (x3 + 3) L) (ea1 : a1 = xs (x3 + 1).toNatClampNeg) (ea2 : a2 = xs (x3 + 2).toNatClampNeg) (ea3 : a3 = xs (x3 + 3).toNatClampNeg) {σ τ : Hp} (hR : Rl σ τ) {H : Heap} {locs : List Loc} (hV : LW D cy 55 shX adX 27 shM adM (fun q => s.heap.size ≤ q) s.heap σ τ H locs) {ls : Array Slot} (hl : lv_has ls 4 [(0, .ref b), (1, .ref (adX 0)), (2, .ref (adM 0)), (3, .int x3)]) (next : ∀ (σ1 τ1 : Hp), Rl σ1 τ1 → ∀ (H : Heap) (locs : List Loc), LW D cy 55 shX adX 27 shM adM (fun q => s.heap.size ≤ q) s.heap σ1 τ1 H locs → W p l e room_1 s m #[Value.ref b] below meth c H locs 600000 7302250 (lw_Z below #[Value.ref b] s) (F0 m 986 ls [])) : W p l e room_1 s m #[Value.ref b] below meth c H locs 600000 7302250 (lw_Z below #[Value.ref b] s) (F0 m 503 ls []) := by
  have hx := hC.1.1
  have hb := hC.1.2.1
  have hts := hC.1.2.2.2.2
  refine lv_aload_n hx hb dL_law_503 rfl (lv_at hl 1 rfl) ?_
  refine lv_aload_n hx hb dL_law_504 rfl (lv_at hl 0 rfl) ?_
  refine lv_iload_n hx hb dL_law_505 rfl (lv_at hl 3 rfl) ?_
  refine lv_iconst (v := 1) hx hb dL_law_506 (by decide) ?_
  refine lv_iadd hx hb dL_law_507 ?_
  refine va_sld hx hb hX hbl hbA hV.2.2.2.2.2.1 hi1 dL_law_508 ?_
  rw [← ea1]
  refine lv_aload_n hx hb dL_law_509 rfl (lv_at hl 0 rfl) ?_
  refine lv_iload_n hx hb dL_law_510 rfl (lv_at hl 3 rfl) ?_
  refine lv_iconst (v := 2) hx hb dL_law_511 (by decide) ?_
  refine lv_iadd hx hb dL_law_512 ?_
  refine va_sld hx hb hX hbl hbA hV.2.2.2.2.2.1 hi2 dL_law_513 ?_
  rw [← ea2]
  refine lv_aload_n hx hb dL_law_514 rfl (lv_at hl 0 rfl) ?_
  refine lv_iload_n hx hb dL_law_515 rfl (lv_at hl 3 rfl) ?_
  refine lv_iconst (v := 3) hx hb dL_law_516 (by decide) ?_
  refine lv_iadd hx hb dL_law_517 ?_
  refine va_sld hx hb hX hbl hbA hV.2.2.2.2.2.1 hi3 dL_law_518 ?_
  rw [← ea3]
  obtain ⟨r, σ1, τ1, e1, e2, hR1⟩ := hk13 σ τ hR a1 a2 a3
  refine law_i (As := [.int a1, .int a2, .int a3]) (rest := []) hC hV (fun A1 => c_X6_clue l D cy adX A1 _ _ _ _ _ _ e1) (cwV 3 hts (gdV wd_835 wd_663 wd_664 wd_5 wd_662) rfl rfl rfl (by decide +kernel) ⟨Nat.le_of_ble_eq_true rfl, Nat.le_of_ble_eq_true rfl⟩) (Nat.le_of_ble_eq_true rfl) rfl rfl rfl hl.1 (Nat.le_of_ble_eq_true rfl) dL_law_519 ⟨Nat.le_of_ble_eq_true rfl, Nat.le_of_ble_eq_true rfl⟩ (fun H1 locs1 hV1 => ?_)
  replace hV := hV1
  clear hV1
  refine lv_aload_n hx hb dL_law_522 rfl (lv_at hl 2 rfl) ?_
  refine lv_aload_n hx hb dL_law_523 rfl (lv_at hl 0 rfl) ?_
  refine lv_iload_n hx hb dL_law_524 rfl (lv_at hl 3 rfl) ?_
  refine lv_iconst (v := 1) hx hb dL_law_525 (by decide) ?_
  refine lv_iadd hx hb dL_law_526 ?_
  refine va_sld hx hb hX hbl hbA hV.2.2.2.2.2.1 hi1 dL_law_527 ?_
  rw [← ea1]
  refine lv_aload_n hx hb dL_law_528 rfl (lv_at hl 0 rfl) ?_
  refine lv_iload_n hx hb dL_law_529 rfl (lv_at hl 3 rfl) ?_
  refine lv_iconst (v := 2) hx hb dL_law_530 (by decide) ?_
  refine lv_iadd hx hb dL_law_531 ?_
  refine va_sld hx hb hX hbl hbA hV.2.2.2.2.2.1 hi2 dL_law_532 ?_
  rw [← ea2]
  refine lv_aload_n hx hb dL_law_533 rfl (lv_at hl 0 rfl) ?_
  refine lv_iload_n hx hb dL_law_534 rfl (lv_at hl 3 rfl) ?_
  refine lv_iconst (v := 3) hx hb dL_law_535 (by decide) ?_
  refine lv_iadd hx hb dL_law_536 ?_
  refine va_sld hx hb hX hbl hbA hV.2.2.2.2.2.1 hi3 dL_law_537 ?_
  rw [← ea3]
  refine law_i (As := [.int a1, .int a2, .int a3]) (rest := [.int r]) hC hV.swap (fun A1 => c_X7_clue l D cy adM A1 _ _ _ _ _ _ e2) (cwV 3 hts (gdV wd_836 wd_753 wd_754 wd_300 wd_752) rfl rfl rfl (by decide +kernel) ⟨Nat.le_of_ble_eq_true rfl, Nat.le_of_ble_eq_true rfl⟩) (Nat.le_of_ble_eq_true rfl) rfl rfl rfl hl.1 (Nat.le_of_ble_eq_true rfl) dL_law_538 ⟨Nat.le_of_ble_eq_true rfl, Nat.le_of_ble_eq_true rfl⟩ (fun H1 locs1 hV1 => ?_)
  replace hV := hV1.swap
  clear hV1
  refine lv_icmp_eq (tgt := 986) hx hb dL_law_541 (by decide) (fun _ => ?_) (fun cz => absurd rfl cz)
  exact next _ _ hR1 _ _ hV
set_option maxHeartbeats 8000000 in
set_option maxRecDepth 100000 in
theorem law_case14 {p : Program} {l : Launch} {e : Env} {s : State} {m : MethodId} {below : List Frame} {meth : Method} {c : Code} {D : va_G} {cy : ClassId × ClassId} {b L t0 : Nat} {xs : Nat → Int32} {adX adM : Nat → Nat} {N : Nat} {Rl : Hp → Hp → Prop} (hk14 : ∀ (σ τ : Hp), Rl σ τ → ∀ (p0 : Int32) (p1 : Int32), ∃ r : Int32, ∃ σ1 : Hp, ∃ τ1 : Hp, t_X6_seen p0 p1 σ = some (r, σ1) ∧ t_X7_seen p0 p1 τ = some (r, τ1) ∧ Rl σ1 τ1) (hC : Cx p m c cL_law 4 s #[Value.ref b] wsU RL D cy) (hX : va_X b L xs s s.heap) (hbl : b < s.heap.size) (hbA : ¬ (fun q : Nat => s.heap.size ≤ q) b) (hST : ST t0 (fun q => s.heap.size ≤ q) s) {x3 a1 a2 a3 : Int32} (hi1 : vp_in (x3 + 1) L) (hi2 : vp_in (x3 + 2) L) (hi3 : vp_in (x3 + 3) L) (ea1 : a1 = xs (x3 + 1).toNatClampNeg) (ea2 : a2 = xs (x3 + 2).toNatClampNeg) (ea3 : a3 = xs (x3 + 3).toNatClampNeg) {σ τ : Hp} (hR : Rl σ τ) {H : Heap} {locs : List Loc} (hV : LW D cy 55 shX adX 27 shM adM (fun q => s.heap.size ≤ q) s.heap σ τ H locs) {ls : Array Slot} (hl : lv_has ls 4 [(0, .ref b), (1, .ref (adX 0)), (2, .ref (adM 0)), (3, .int x3)]) (next : ∀ (σ1 τ1 : Hp), Rl σ1 τ1 → ∀ (H : Heap) (locs : List Loc), LW D cy 55 shX adX 27 shM adM (fun q => s.heap.size ≤ q) s.heap σ1 τ1 H locs → W p l e room_1 s m #[Value.ref b] below meth c H locs 600000 7302250 (lw_Z below #[Value.ref b] s) (F0 m 986 ls [])) : W p l e room_1 s m #[Value.ref b] below meth c H locs 600000 7302250 (lw_Z below #[Value.ref b] s) (F0 m 546 ls []) := by
  have hx := hC.1.1
  have hb := hC.1.2.1
  have hts := hC.1.2.2.2.2
  refine lv_aload_n hx hb dL_law_546 rfl (lv_at hl 1 rfl) ?_
  refine lv_aload_n hx hb dL_law_547 rfl (lv_at hl 0 rfl) ?_
  refine lv_iload_n hx hb dL_law_548 rfl (lv_at hl 3 rfl) ?_
  refine lv_iconst (v := 1) hx hb dL_law_549 (by decide) ?_
  refine lv_iadd hx hb dL_law_550 ?_
  refine va_sld hx hb hX hbl hbA hV.2.2.2.2.2.1 hi1 dL_law_551 ?_
  rw [← ea1]
  refine lv_aload_n hx hb dL_law_552 rfl (lv_at hl 0 rfl) ?_
  refine lv_iload_n hx hb dL_law_553 rfl (lv_at hl 3 rfl) ?_
  refine lv_iconst (v := 2) hx hb dL_law_554 (by decide) ?_
  refine lv_iadd hx hb dL_law_555 ?_
  refine va_sld hx hb hX hbl hbA hV.2.2.2.2.2.1 hi2 dL_law_556 ?_
  rw [← ea2]
  obtain ⟨r, σ1, τ1, e1, e2, hR1⟩ := hk14 σ τ hR a1 a2
  refine law_i (As := [.int a1, .int a2]) (rest := []) hC hV (fun A1 => c_X6_seen l D cy adX A1 _ _ _ _ _ e1) (cwV 2 hts (gdV wd_837 wd_666 wd_667 wd_5 wd_665) rfl rfl rfl (by decide +kernel) ⟨Nat.le_of_ble_eq_true rfl, Nat.le_of_ble_eq_true rfl⟩) (Nat.le_of_ble_eq_true rfl) rfl rfl rfl hl.1 (Nat.le_of_ble_eq_true rfl) dL_law_557 ⟨Nat.le_of_ble_eq_true rfl, Nat.le_of_ble_eq_true rfl⟩ (fun H1 locs1 hV1 => ?_)
  replace hV := hV1
  clear hV1
  refine lv_aload_n hx hb dL_law_560 rfl (lv_at hl 2 rfl) ?_
  refine lv_aload_n hx hb dL_law_561 rfl (lv_at hl 0 rfl) ?_
  refine lv_iload_n hx hb dL_law_562 rfl (lv_at hl 3 rfl) ?_
  refine lv_iconst (v := 1) hx hb dL_law_563 (by decide) ?_
  refine lv_iadd hx hb dL_law_564 ?_
  refine va_sld hx hb hX hbl hbA hV.2.2.2.2.2.1 hi1 dL_law_565 ?_
  rw [← ea1]
  refine lv_aload_n hx hb dL_law_566 rfl (lv_at hl 0 rfl) ?_
  refine lv_iload_n hx hb dL_law_567 rfl (lv_at hl 3 rfl) ?_
  refine lv_iconst (v := 2) hx hb dL_law_568 (by decide) ?_
  refine lv_iadd hx hb dL_law_569 ?_
  refine va_sld hx hb hX hbl hbA hV.2.2.2.2.2.1 hi2 dL_law_570 ?_
  rw [← ea2]
  refine law_i (As := [.int a1, .int a2]) (rest := [.int r]) hC hV.swap (fun A1 => c_X7_seen l D cy adM A1 _ _ _ _ _ e2) (cwV 2 hts (gdV wd_838 wd_756 wd_757 wd_300 wd_755) rfl rfl rfl (by decide +kernel) ⟨Nat.le_of_ble_eq_true rfl, Nat.le_of_ble_eq_true rfl⟩) (Nat.le_of_ble_eq_true rfl) rfl rfl rfl hl.1 (Nat.le_of_ble_eq_true rfl) dL_law_571 ⟨Nat.le_of_ble_eq_true rfl, Nat.le_of_ble_eq_true rfl⟩ (fun H1 locs1 hV1 => ?_)
  replace hV := hV1.swap
  clear hV1
  refine lv_icmp_eq (tgt := 986) hx hb dL_law_574 (by decide) (fun _ => ?_) (fun cz => absurd rfl cz)
  exact next _ _ hR1 _ _ hV
set_option maxHeartbeats 8000000 in
set_option maxRecDepth 100000 in
theorem law_case15 {p : Program} {l : Launch} {e : Env} {s : State} {m : MethodId} {below : List Frame} {meth : Method} {c : Code} {D : va_G} {cy : ClassId × ClassId} {b L t0 : Nat} {xs : Nat → Int32} {adX adM : Nat → Nat} {N : Nat} {Rl : Hp → Hp → Prop} (hk15 : ∀ (σ τ : Hp), Rl σ τ → ∀ (p0 : Int32), ∃ r : Int32, ∃ σ1 : Hp, ∃ τ1 : Hp, t_X6_forget p0 σ = some (r, σ1) ∧ t_X7_forget p0 τ = some (r, τ1) ∧ Rl σ1 τ1) (hC : Cx p m c cL_law 4 s #[Value.ref b] wsU RL D cy) (hX : va_X b L xs s s.heap) (hbl : b < s.heap.size) (hbA : ¬ (fun q : Nat => s.heap.size ≤ q) b) (hST : ST t0 (fun q => s.heap.size ≤ q) s) {x3 a1 a2 a3 : Int32} (hi1 : vp_in (x3 + 1) L) (hi2 : vp_in (x3 + 2) L) (hi3 : vp_in (x3 + 3) L) (ea1 : a1 = xs (x3 + 1).toNatClampNeg) (ea2 : a2 = xs (x3 + 2).toNatClampNeg) (ea3 : a3 = xs (x3 + 3).toNatClampNeg) {σ τ : Hp} (hR : Rl σ τ) {H : Heap} {locs : List Loc} (hV : LW D cy 55 shX adX 27 shM adM (fun q => s.heap.size ≤ q) s.heap σ τ H locs) {ls : Array Slot} (hl : lv_has ls 4 [(0, .ref b), (1, .ref (adX 0)), (2, .ref (adM 0)), (3, .int x3)]) (next : ∀ (σ1 τ1 : Hp), Rl σ1 τ1 → ∀ (H : Heap) (locs : List Loc), LW D cy 55 shX adX 27 shM adM (fun q => s.heap.size ≤ q) s.heap σ1 τ1 H locs → W p l e room_1 s m #[Value.ref b] below meth c H locs 600000 7302250 (lw_Z below #[Value.ref b] s) (F0 m 986 ls [])) : W p l e room_1 s m #[Value.ref b] below meth c H locs 600000 7302250 (lw_Z below #[Value.ref b] s) (F0 m 579 ls []) := by
  have hx := hC.1.1
  have hb := hC.1.2.1
  have hts := hC.1.2.2.2.2
  refine lv_aload_n hx hb dL_law_579 rfl (lv_at hl 1 rfl) ?_
  refine lv_aload_n hx hb dL_law_580 rfl (lv_at hl 0 rfl) ?_
  refine lv_iload_n hx hb dL_law_581 rfl (lv_at hl 3 rfl) ?_
  refine lv_iconst (v := 1) hx hb dL_law_582 (by decide) ?_
  refine lv_iadd hx hb dL_law_583 ?_
  refine va_sld hx hb hX hbl hbA hV.2.2.2.2.2.1 hi1 dL_law_584 ?_
  rw [← ea1]
  obtain ⟨r, σ1, τ1, e1, e2, hR1⟩ := hk15 σ τ hR a1
  refine law_i (As := [.int a1]) (rest := []) hC hV (fun A1 => c_X6_forget l D cy adX A1 _ _ _ _ e1) (cwV 1 hts (gdV wd_839 wd_669 wd_670 wd_5 wd_668) rfl rfl rfl (by decide +kernel) ⟨Nat.le_of_ble_eq_true rfl, Nat.le_of_ble_eq_true rfl⟩) (Nat.le_of_ble_eq_true rfl) rfl rfl rfl hl.1 (Nat.le_of_ble_eq_true rfl) dL_law_585 ⟨Nat.le_of_ble_eq_true rfl, Nat.le_of_ble_eq_true rfl⟩ (fun H1 locs1 hV1 => ?_)
  replace hV := hV1
  clear hV1
  refine lv_aload_n hx hb dL_law_588 rfl (lv_at hl 2 rfl) ?_
  refine lv_aload_n hx hb dL_law_589 rfl (lv_at hl 0 rfl) ?_
  refine lv_iload_n hx hb dL_law_590 rfl (lv_at hl 3 rfl) ?_
  refine lv_iconst (v := 1) hx hb dL_law_591 (by decide) ?_
  refine lv_iadd hx hb dL_law_592 ?_
  refine va_sld hx hb hX hbl hbA hV.2.2.2.2.2.1 hi1 dL_law_593 ?_
  rw [← ea1]
  refine law_i (As := [.int a1]) (rest := [.int r]) hC hV.swap (fun A1 => c_X7_forget l D cy adM A1 _ _ _ _ e2) (cwV 1 hts (gdV wd_840 wd_759 wd_760 wd_300 wd_758) rfl rfl rfl (by decide +kernel) ⟨Nat.le_of_ble_eq_true rfl, Nat.le_of_ble_eq_true rfl⟩) (Nat.le_of_ble_eq_true rfl) rfl rfl rfl hl.1 (Nat.le_of_ble_eq_true rfl) dL_law_594 ⟨Nat.le_of_ble_eq_true rfl, Nat.le_of_ble_eq_true rfl⟩ (fun H1 locs1 hV1 => ?_)
  replace hV := hV1.swap
  clear hV1
  refine lv_icmp_eq (tgt := 986) hx hb dL_law_597 (by decide) (fun _ => ?_) (fun cz => absurd rfl cz)
  exact next _ _ hR1 _ _ hV
set_option maxHeartbeats 8000000 in
set_option maxRecDepth 100000 in
theorem law_case16 {p : Program} {l : Launch} {e : Env} {s : State} {m : MethodId} {below : List Frame} {meth : Method} {c : Code} {D : va_G} {cy : ClassId × ClassId} {b L t0 : Nat} {xs : Nat → Int32} {adX adM : Nat → Nat} {N : Nat} {Rl : Hp → Hp → Prop} (hk16 : ∀ (σ τ : Hp), Rl σ τ → ∀ (p0 : Int32), ∃ r : Int32, ∃ σ1 : Hp, ∃ τ1 : Hp, t_X6_fits N p0 σ = some (r, σ1) ∧ t_X7_fits N p0 τ = some (r, τ1) ∧ Rl σ1 τ1) (hC : Cx p m c cL_law 4 s #[Value.ref b] wsU RL D cy) (hX : va_X b L xs s s.heap) (hbl : b < s.heap.size) (hbA : ¬ (fun q : Nat => s.heap.size ≤ q) b) (hST : ST t0 (fun q => s.heap.size ≤ q) s) {x3 a1 a2 a3 : Int32} (hi1 : vp_in (x3 + 1) L) (hi2 : vp_in (x3 + 2) L) (hi3 : vp_in (x3 + 3) L) (ea1 : a1 = xs (x3 + 1).toNatClampNeg) (ea2 : a2 = xs (x3 + 2).toNatClampNeg) (ea3 : a3 = xs (x3 + 3).toNatClampNeg) {σ τ : Hp} (hR : Rl σ τ) {H : Heap} {locs : List Loc} (hV : LW D cy 55 shX adX 27 shM adM (fun q => s.heap.size ≤ q) s.heap σ τ H locs) {ls : Array Slot} (hl : lv_has ls 4 [(0, .ref b), (1, .ref (adX 0)), (2, .ref (adM 0)), (3, .int x3)]) (next : ∀ (σ1 τ1 : Hp), Rl σ1 τ1 → ∀ (H : Heap) (locs : List Loc), LW D cy 55 shX adX 27 shM adM (fun q => s.heap.size ≤ q) s.heap σ1 τ1 H locs → W p l e room_1 s m #[Value.ref b] below meth c H locs 600000 7302250 (lw_Z below #[Value.ref b] s) (F0 m 986 ls [])) : W p l e room_1 s m #[Value.ref b] below meth c H locs 600000 7302250 (lw_Z below #[Value.ref b] s) (F0 m 602 ls []) := by
  have hx := hC.1.1
  have hb := hC.1.2.1
  have hts := hC.1.2.2.2.2
  refine lv_aload_n hx hb dL_law_602 rfl (lv_at hl 1 rfl) ?_
  refine lv_aload_n hx hb dL_law_603 rfl (lv_at hl 0 rfl) ?_
  refine lv_iload_n hx hb dL_law_604 rfl (lv_at hl 3 rfl) ?_
  refine lv_iconst (v := 1) hx hb dL_law_605 (by decide) ?_
  refine lv_iadd hx hb dL_law_606 ?_
  refine va_sld hx hb hX hbl hbA hV.2.2.2.2.2.1 hi1 dL_law_607 ?_
  rw [← ea1]
  obtain ⟨r, σ1, τ1, e1, e2, hR1⟩ := hk16 σ τ hR a1
  refine law_i (As := [.int a1]) (rest := []) hC hV (fun A1 => c_X6_fits l D cy adX A1 N _ _ _ _ e1) (cwV 1 hts (gdV wd_841 wd_672 wd_673 wd_5 wd_671) rfl rfl rfl (by decide +kernel) ⟨Nat.le_of_ble_eq_true rfl, Nat.le_of_ble_eq_true rfl⟩) (Nat.le_of_ble_eq_true rfl) rfl rfl rfl hl.1 (Nat.le_of_ble_eq_true rfl) dL_law_608 ⟨Nat.le_of_ble_eq_true rfl, Nat.le_of_ble_eq_true rfl⟩ (fun H1 locs1 hV1 => ?_)
  replace hV := hV1
  clear hV1
  refine lv_aload_n hx hb dL_law_611 rfl (lv_at hl 2 rfl) ?_
  refine lv_aload_n hx hb dL_law_612 rfl (lv_at hl 0 rfl) ?_
  refine lv_iload_n hx hb dL_law_613 rfl (lv_at hl 3 rfl) ?_
  refine lv_iconst (v := 1) hx hb dL_law_614 (by decide) ?_
  refine lv_iadd hx hb dL_law_615 ?_
  refine va_sld hx hb hX hbl hbA hV.2.2.2.2.2.1 hi1 dL_law_616 ?_
  rw [← ea1]
  refine law_i (As := [.int a1]) (rest := [.int r]) hC hV.swap (fun A1 => c_X7_fits l D cy adM A1 N _ _ _ _ e2) (cwV 1 hts (gdV wd_842 wd_762 wd_763 wd_300 wd_761) rfl rfl rfl (by decide +kernel) ⟨Nat.le_of_ble_eq_true rfl, Nat.le_of_ble_eq_true rfl⟩) (Nat.le_of_ble_eq_true rfl) rfl rfl rfl hl.1 (Nat.le_of_ble_eq_true rfl) dL_law_617 ⟨Nat.le_of_ble_eq_true rfl, Nat.le_of_ble_eq_true rfl⟩ (fun H1 locs1 hV1 => ?_)
  replace hV := hV1.swap
  clear hV1
  refine lv_icmp_eq (tgt := 986) hx hb dL_law_620 (by decide) (fun _ => ?_) (fun cz => absurd rfl cz)
  exact next _ _ hR1 _ _ hV
set_option maxHeartbeats 8000000 in
set_option maxRecDepth 100000 in
theorem law_case17 {p : Program} {l : Launch} {e : Env} {s : State} {m : MethodId} {below : List Frame} {meth : Method} {c : Code} {D : va_G} {cy : ClassId × ClassId} {b L t0 : Nat} {xs : Nat → Int32} {adX adM : Nat → Nat} {N : Nat} {Rl : Hp → Hp → Prop} (hk17 : ∀ (σ τ : Hp), Rl σ τ → ∀ (p0 : Int32), ∃ r : Int32, ∃ σ1 : Hp, ∃ τ1 : Hp, t_X6_places N p0 σ = some (r, σ1) ∧ t_X7_places N p0 τ = some (r, τ1) ∧ Rl σ1 τ1) (hC : Cx p m c cL_law 4 s #[Value.ref b] wsU RL D cy) (hX : va_X b L xs s s.heap) (hbl : b < s.heap.size) (hbA : ¬ (fun q : Nat => s.heap.size ≤ q) b) (hST : ST t0 (fun q => s.heap.size ≤ q) s) {x3 a1 a2 a3 : Int32} (hi1 : vp_in (x3 + 1) L) (hi2 : vp_in (x3 + 2) L) (hi3 : vp_in (x3 + 3) L) (ea1 : a1 = xs (x3 + 1).toNatClampNeg) (ea2 : a2 = xs (x3 + 2).toNatClampNeg) (ea3 : a3 = xs (x3 + 3).toNatClampNeg) {σ τ : Hp} (hR : Rl σ τ) {H : Heap} {locs : List Loc} (hV : LW D cy 55 shX adX 27 shM adM (fun q => s.heap.size ≤ q) s.heap σ τ H locs) {ls : Array Slot} (hl : lv_has ls 4 [(0, .ref b), (1, .ref (adX 0)), (2, .ref (adM 0)), (3, .int x3)]) (next : ∀ (σ1 τ1 : Hp), Rl σ1 τ1 → ∀ (H : Heap) (locs : List Loc), LW D cy 55 shX adX 27 shM adM (fun q => s.heap.size ≤ q) s.heap σ1 τ1 H locs → W p l e room_1 s m #[Value.ref b] below meth c H locs 600000 7302250 (lw_Z below #[Value.ref b] s) (F0 m 986 ls [])) : W p l e room_1 s m #[Value.ref b] below meth c H locs 600000 7302250 (lw_Z below #[Value.ref b] s) (F0 m 625 ls []) := by
  have hx := hC.1.1
  have hb := hC.1.2.1
  have hts := hC.1.2.2.2.2
  refine lv_aload_n hx hb dL_law_625 rfl (lv_at hl 1 rfl) ?_
  refine lv_aload_n hx hb dL_law_626 rfl (lv_at hl 0 rfl) ?_
  refine lv_iload_n hx hb dL_law_627 rfl (lv_at hl 3 rfl) ?_
  refine lv_iconst (v := 1) hx hb dL_law_628 (by decide) ?_
  refine lv_iadd hx hb dL_law_629 ?_
  refine va_sld hx hb hX hbl hbA hV.2.2.2.2.2.1 hi1 dL_law_630 ?_
  rw [← ea1]
  obtain ⟨r, σ1, τ1, e1, e2, hR1⟩ := hk17 σ τ hR a1
  refine law_i (As := [.int a1]) (rest := []) hC hV (fun A1 => c_X6_places l D cy adX A1 N _ _ _ _ e1) (cwV 1 hts (gdV wd_843 wd_675 wd_676 wd_5 wd_674) rfl rfl rfl (by decide +kernel) ⟨Nat.le_of_ble_eq_true rfl, Nat.le_of_ble_eq_true rfl⟩) (Nat.le_of_ble_eq_true rfl) rfl rfl rfl hl.1 (Nat.le_of_ble_eq_true rfl) dL_law_631 ⟨Nat.le_of_ble_eq_true rfl, Nat.le_of_ble_eq_true rfl⟩ (fun H1 locs1 hV1 => ?_)
  replace hV := hV1
  clear hV1
  refine lv_aload_n hx hb dL_law_634 rfl (lv_at hl 2 rfl) ?_
  refine lv_aload_n hx hb dL_law_635 rfl (lv_at hl 0 rfl) ?_
  refine lv_iload_n hx hb dL_law_636 rfl (lv_at hl 3 rfl) ?_
  refine lv_iconst (v := 1) hx hb dL_law_637 (by decide) ?_
  refine lv_iadd hx hb dL_law_638 ?_
  refine va_sld hx hb hX hbl hbA hV.2.2.2.2.2.1 hi1 dL_law_639 ?_
  rw [← ea1]
  refine law_i (As := [.int a1]) (rest := [.int r]) hC hV.swap (fun A1 => c_X7_places l D cy adM A1 N _ _ _ _ e2) (cwV 1 hts (gdV wd_844 wd_765 wd_766 wd_300 wd_764) rfl rfl rfl (by decide +kernel) ⟨Nat.le_of_ble_eq_true rfl, Nat.le_of_ble_eq_true rfl⟩) (Nat.le_of_ble_eq_true rfl) rfl rfl rfl hl.1 (Nat.le_of_ble_eq_true rfl) dL_law_640 ⟨Nat.le_of_ble_eq_true rfl, Nat.le_of_ble_eq_true rfl⟩ (fun H1 locs1 hV1 => ?_)
  replace hV := hV1.swap
  clear hV1
  refine lv_icmp_eq (tgt := 986) hx hb dL_law_643 (by decide) (fun _ => ?_) (fun cz => absurd rfl cz)
  exact next _ _ hR1 _ _ hV
set_option maxHeartbeats 8000000 in
set_option maxRecDepth 100000 in
theorem law_case18 {p : Program} {l : Launch} {e : Env} {s : State} {m : MethodId} {below : List Frame} {meth : Method} {c : Code} {D : va_G} {cy : ClassId × ClassId} {b L t0 : Nat} {xs : Nat → Int32} {adX adM : Nat → Nat} {N : Nat} {Rl : Hp → Hp → Prop} (hk18 : ∀ (σ τ : Hp), Rl σ τ → ∃ r : Int32, ∃ σ1 : Hp, ∃ τ1 : Hp, t_X6_firsts N σ = some (r, σ1) ∧ t_X7_firsts N τ = some (r, τ1) ∧ Rl σ1 τ1) (hC : Cx p m c cL_law 4 s #[Value.ref b] wsU RL D cy) (hX : va_X b L xs s s.heap) (hbl : b < s.heap.size) (hbA : ¬ (fun q : Nat => s.heap.size ≤ q) b) (hST : ST t0 (fun q => s.heap.size ≤ q) s) {x3 a1 a2 a3 : Int32} (hi1 : vp_in (x3 + 1) L) (hi2 : vp_in (x3 + 2) L) (hi3 : vp_in (x3 + 3) L) (ea1 : a1 = xs (x3 + 1).toNatClampNeg) (ea2 : a2 = xs (x3 + 2).toNatClampNeg) (ea3 : a3 = xs (x3 + 3).toNatClampNeg) {σ τ : Hp} (hR : Rl σ τ) {H : Heap} {locs : List Loc} (hV : LW D cy 55 shX adX 27 shM adM (fun q => s.heap.size ≤ q) s.heap σ τ H locs) {ls : Array Slot} (hl : lv_has ls 4 [(0, .ref b), (1, .ref (adX 0)), (2, .ref (adM 0)), (3, .int x3)]) (next : ∀ (σ1 τ1 : Hp), Rl σ1 τ1 → ∀ (H : Heap) (locs : List Loc), LW D cy 55 shX adX 27 shM adM (fun q => s.heap.size ≤ q) s.heap σ1 τ1 H locs → W p l e room_1 s m #[Value.ref b] below meth c H locs 600000 7302250 (lw_Z below #[Value.ref b] s) (F0 m 986 ls [])) : W p l e room_1 s m #[Value.ref b] below meth c H locs 600000 7302250 (lw_Z below #[Value.ref b] s) (F0 m 648 ls []) := by
  have hx := hC.1.1
  have hb := hC.1.2.1
  have hts := hC.1.2.2.2.2
  refine lv_aload_n hx hb dL_law_648 rfl (lv_at hl 1 rfl) ?_
  obtain ⟨r, σ1, τ1, e1, e2, hR1⟩ := hk18 σ τ hR
  refine law_i (As := []) (rest := []) hC hV (fun A1 => c_X6_firsts l D cy adX A1 N _ _ _ e1) (cwV 0 hts (gdV wd_845 wd_678 wd_679 wd_5 wd_677) rfl rfl rfl (by decide +kernel) ⟨Nat.le_of_ble_eq_true rfl, Nat.le_of_ble_eq_true rfl⟩) (Nat.le_of_ble_eq_true rfl) rfl rfl rfl hl.1 (Nat.le_of_ble_eq_true rfl) dL_law_649 ⟨Nat.le_of_ble_eq_true rfl, Nat.le_of_ble_eq_true rfl⟩ (fun H1 locs1 hV1 => ?_)
  replace hV := hV1
  clear hV1
  refine lv_aload_n hx hb dL_law_652 rfl (lv_at hl 2 rfl) ?_
  refine law_i (As := []) (rest := [.int r]) hC hV.swap (fun A1 => c_X7_firsts l D cy adM A1 N _ _ _ e2) (cwV 0 hts (gdV wd_846 wd_768 wd_769 wd_300 wd_767) rfl rfl rfl (by decide +kernel) ⟨Nat.le_of_ble_eq_true rfl, Nat.le_of_ble_eq_true rfl⟩) (Nat.le_of_ble_eq_true rfl) rfl rfl rfl hl.1 (Nat.le_of_ble_eq_true rfl) dL_law_653 ⟨Nat.le_of_ble_eq_true rfl, Nat.le_of_ble_eq_true rfl⟩ (fun H1 locs1 hV1 => ?_)
  replace hV := hV1.swap
  clear hV1
  refine lv_icmp_eq (tgt := 986) hx hb dL_law_656 (by decide) (fun _ => ?_) (fun cz => absurd rfl cz)
  exact next _ _ hR1 _ _ hV
set_option maxHeartbeats 8000000 in
set_option maxRecDepth 100000 in
theorem law_case19 {p : Program} {l : Launch} {e : Env} {s : State} {m : MethodId} {below : List Frame} {meth : Method} {c : Code} {D : va_G} {cy : ClassId × ClassId} {b L t0 : Nat} {xs : Nat → Int32} {adX adM : Nat → Nat} {N : Nat} {Rl : Hp → Hp → Prop} (hk19 : ∀ (σ τ : Hp), Rl σ τ → ∀ (p0 : Int32) (p1 : Int32), ∃ r : Int32, ∃ σ1 : Hp, ∃ τ1 : Hp, t_X6_certain N p0 p1 σ = some (r, σ1) ∧ t_X7_certain N p0 p1 τ = some (r, τ1) ∧ Rl σ1 τ1) (hC : Cx p m c cL_law 4 s #[Value.ref b] wsU RL D cy) (hX : va_X b L xs s s.heap) (hbl : b < s.heap.size) (hbA : ¬ (fun q : Nat => s.heap.size ≤ q) b) (hST : ST t0 (fun q => s.heap.size ≤ q) s) {x3 a1 a2 a3 : Int32} (hi1 : vp_in (x3 + 1) L) (hi2 : vp_in (x3 + 2) L) (hi3 : vp_in (x3 + 3) L) (ea1 : a1 = xs (x3 + 1).toNatClampNeg) (ea2 : a2 = xs (x3 + 2).toNatClampNeg) (ea3 : a3 = xs (x3 + 3).toNatClampNeg) {σ τ : Hp} (hR : Rl σ τ) {H : Heap} {locs : List Loc} (hV : LW D cy 55 shX adX 27 shM adM (fun q => s.heap.size ≤ q) s.heap σ τ H locs) {ls : Array Slot} (hl : lv_has ls 4 [(0, .ref b), (1, .ref (adX 0)), (2, .ref (adM 0)), (3, .int x3)]) (next : ∀ (σ1 τ1 : Hp), Rl σ1 τ1 → ∀ (H : Heap) (locs : List Loc), LW D cy 55 shX adX 27 shM adM (fun q => s.heap.size ≤ q) s.heap σ1 τ1 H locs → W p l e room_1 s m #[Value.ref b] below meth c H locs 600000 7302250 (lw_Z below #[Value.ref b] s) (F0 m 986 ls [])) : W p l e room_1 s m #[Value.ref b] below meth c H locs 600000 7302250 (lw_Z below #[Value.ref b] s) (F0 m 661 ls []) := by
  have hx := hC.1.1
  have hb := hC.1.2.1
  have hts := hC.1.2.2.2.2
  refine lv_aload_n hx hb dL_law_661 rfl (lv_at hl 1 rfl) ?_
  refine lv_aload_n hx hb dL_law_662 rfl (lv_at hl 0 rfl) ?_
  refine lv_iload_n hx hb dL_law_663 rfl (lv_at hl 3 rfl) ?_
  refine lv_iconst (v := 1) hx hb dL_law_664 (by decide) ?_
  refine lv_iadd hx hb dL_law_665 ?_
  refine va_sld hx hb hX hbl hbA hV.2.2.2.2.2.1 hi1 dL_law_666 ?_
  rw [← ea1]
  refine lv_aload_n hx hb dL_law_667 rfl (lv_at hl 0 rfl) ?_
  refine lv_iload_n hx hb dL_law_668 rfl (lv_at hl 3 rfl) ?_
  refine lv_iconst (v := 2) hx hb dL_law_669 (by decide) ?_
  refine lv_iadd hx hb dL_law_670 ?_
  refine va_sld hx hb hX hbl hbA hV.2.2.2.2.2.1 hi2 dL_law_671 ?_
  rw [← ea2]
  obtain ⟨r, σ1, τ1, e1, e2, hR1⟩ := hk19 σ τ hR a1 a2
  refine law_i (As := [.int a1, .int a2]) (rest := []) hC hV (fun A1 => c_X6_certain l D cy adX A1 N _ _ _ _ _ e1) (cwV 2 hts (gdV wd_847 wd_681 wd_682 wd_5 wd_680) rfl rfl rfl (by decide +kernel) ⟨Nat.le_of_ble_eq_true rfl, Nat.le_of_ble_eq_true rfl⟩) (Nat.le_of_ble_eq_true rfl) rfl rfl rfl hl.1 (Nat.le_of_ble_eq_true rfl) dL_law_672 ⟨Nat.le_of_ble_eq_true rfl, Nat.le_of_ble_eq_true rfl⟩ (fun H1 locs1 hV1 => ?_)
  replace hV := hV1
  clear hV1
  refine lv_aload_n hx hb dL_law_675 rfl (lv_at hl 2 rfl) ?_
  refine lv_aload_n hx hb dL_law_676 rfl (lv_at hl 0 rfl) ?_
  refine lv_iload_n hx hb dL_law_677 rfl (lv_at hl 3 rfl) ?_
  refine lv_iconst (v := 1) hx hb dL_law_678 (by decide) ?_
  refine lv_iadd hx hb dL_law_679 ?_
  refine va_sld hx hb hX hbl hbA hV.2.2.2.2.2.1 hi1 dL_law_680 ?_
  rw [← ea1]
  refine lv_aload_n hx hb dL_law_681 rfl (lv_at hl 0 rfl) ?_
  refine lv_iload_n hx hb dL_law_682 rfl (lv_at hl 3 rfl) ?_
  refine lv_iconst (v := 2) hx hb dL_law_683 (by decide) ?_
  refine lv_iadd hx hb dL_law_684 ?_
  refine va_sld hx hb hX hbl hbA hV.2.2.2.2.2.1 hi2 dL_law_685 ?_
  rw [← ea2]
  refine law_i (As := [.int a1, .int a2]) (rest := [.int r]) hC hV.swap (fun A1 => c_X7_certain l D cy adM A1 N _ _ _ _ _ e2) (cwV 2 hts (gdV wd_848 wd_771 wd_772 wd_300 wd_770) rfl rfl rfl (by decide +kernel) ⟨Nat.le_of_ble_eq_true rfl, Nat.le_of_ble_eq_true rfl⟩) (Nat.le_of_ble_eq_true rfl) rfl rfl rfl hl.1 (Nat.le_of_ble_eq_true rfl) dL_law_686 ⟨Nat.le_of_ble_eq_true rfl, Nat.le_of_ble_eq_true rfl⟩ (fun H1 locs1 hV1 => ?_)
  replace hV := hV1.swap
  clear hV1
  refine lv_icmp_eq (tgt := 986) hx hb dL_law_689 (by decide) (fun _ => ?_) (fun cz => absurd rfl cz)
  exact next _ _ hR1 _ _ hV
set_option maxHeartbeats 8000000 in
set_option maxRecDepth 100000 in
theorem law_case20 {p : Program} {l : Launch} {e : Env} {s : State} {m : MethodId} {below : List Frame} {meth : Method} {c : Code} {D : va_G} {cy : ClassId × ClassId} {b L t0 : Nat} {xs : Nat → Int32} {adX adM : Nat → Nat} {N : Nat} {Rl : Hp → Hp → Prop} (hk20 : ∀ (σ τ : Hp), Rl σ τ → ∀ (p0 : Int32), ∃ r : Int32, ∃ σ1 : Hp, ∃ τ1 : Hp, t_X6_ask N p0 σ = some (r, σ1) ∧ t_X7_ask N p0 τ = some (r, τ1) ∧ Rl σ1 τ1) (hC : Cx p m c cL_law 4 s #[Value.ref b] wsU RL D cy) (hX : va_X b L xs s s.heap) (hbl : b < s.heap.size) (hbA : ¬ (fun q : Nat => s.heap.size ≤ q) b) (hST : ST t0 (fun q => s.heap.size ≤ q) s) {x3 a1 a2 a3 : Int32} (hi1 : vp_in (x3 + 1) L) (hi2 : vp_in (x3 + 2) L) (hi3 : vp_in (x3 + 3) L) (ea1 : a1 = xs (x3 + 1).toNatClampNeg) (ea2 : a2 = xs (x3 + 2).toNatClampNeg) (ea3 : a3 = xs (x3 + 3).toNatClampNeg) {σ τ : Hp} (hR : Rl σ τ) {H : Heap} {locs : List Loc} (hV : LW D cy 55 shX adX 27 shM adM (fun q => s.heap.size ≤ q) s.heap σ τ H locs) {ls : Array Slot} (hl : lv_has ls 4 [(0, .ref b), (1, .ref (adX 0)), (2, .ref (adM 0)), (3, .int x3)]) (next : ∀ (σ1 τ1 : Hp), Rl σ1 τ1 → ∀ (H : Heap) (locs : List Loc), LW D cy 55 shX adX 27 shM adM (fun q => s.heap.size ≤ q) s.heap σ1 τ1 H locs → W p l e room_1 s m #[Value.ref b] below meth c H locs 600000 7302250 (lw_Z below #[Value.ref b] s) (F0 m 986 ls [])) : W p l e room_1 s m #[Value.ref b] below meth c H locs 600000 7302250 (lw_Z below #[Value.ref b] s) (F0 m 694 ls []) := by
  have hx := hC.1.1
  have hb := hC.1.2.1
  have hts := hC.1.2.2.2.2
  refine lv_aload_n hx hb dL_law_694 rfl (lv_at hl 1 rfl) ?_
  refine lv_aload_n hx hb dL_law_695 rfl (lv_at hl 0 rfl) ?_
  refine lv_iload_n hx hb dL_law_696 rfl (lv_at hl 3 rfl) ?_
  refine lv_iconst (v := 1) hx hb dL_law_697 (by decide) ?_
  refine lv_iadd hx hb dL_law_698 ?_
  refine va_sld hx hb hX hbl hbA hV.2.2.2.2.2.1 hi1 dL_law_699 ?_
  rw [← ea1]
  obtain ⟨r, σ1, τ1, e1, e2, hR1⟩ := hk20 σ τ hR a1
  refine law_i (As := [.int a1]) (rest := []) hC hV (fun A1 => c_X6_ask l D cy adX A1 N _ _ _ _ e1) (cwV 1 hts (gdV wd_849 wd_684 wd_685 wd_5 wd_683) rfl rfl rfl (by decide +kernel) ⟨Nat.le_of_ble_eq_true rfl, Nat.le_of_ble_eq_true rfl⟩) (Nat.le_of_ble_eq_true rfl) rfl rfl rfl hl.1 (Nat.le_of_ble_eq_true rfl) dL_law_700 ⟨Nat.le_of_ble_eq_true rfl, Nat.le_of_ble_eq_true rfl⟩ (fun H1 locs1 hV1 => ?_)
  replace hV := hV1
  clear hV1
  refine lv_aload_n hx hb dL_law_703 rfl (lv_at hl 2 rfl) ?_
  refine lv_aload_n hx hb dL_law_704 rfl (lv_at hl 0 rfl) ?_
  refine lv_iload_n hx hb dL_law_705 rfl (lv_at hl 3 rfl) ?_
  refine lv_iconst (v := 1) hx hb dL_law_706 (by decide) ?_
  refine lv_iadd hx hb dL_law_707 ?_
  refine va_sld hx hb hX hbl hbA hV.2.2.2.2.2.1 hi1 dL_law_708 ?_
  rw [← ea1]
  refine law_i (As := [.int a1]) (rest := [.int r]) hC hV.swap (fun A1 => c_X7_ask l D cy adM A1 N _ _ _ _ e2) (cwV 1 hts (gdV wd_850 wd_774 wd_775 wd_300 wd_773) rfl rfl rfl (by decide +kernel) ⟨Nat.le_of_ble_eq_true rfl, Nat.le_of_ble_eq_true rfl⟩) (Nat.le_of_ble_eq_true rfl) rfl rfl rfl hl.1 (Nat.le_of_ble_eq_true rfl) dL_law_709 ⟨Nat.le_of_ble_eq_true rfl, Nat.le_of_ble_eq_true rfl⟩ (fun H1 locs1 hV1 => ?_)
  replace hV := hV1.swap
  clear hV1
  refine lv_icmp_eq (tgt := 986) hx hb dL_law_712 (by decide) (fun _ => ?_) (fun cz => absurd rfl cz)
  exact next _ _ hR1 _ _ hV
set_option maxHeartbeats 8000000 in
set_option maxRecDepth 100000 in
theorem law_case21 {p : Program} {l : Launch} {e : Env} {s : State} {m : MethodId} {below : List Frame} {meth : Method} {c : Code} {D : va_G} {cy : ClassId × ClassId} {b L t0 : Nat} {xs : Nat → Int32} {adX adM : Nat → Nat} {N : Nat} {Rl : Hp → Hp → Prop} (hk21 : ∀ (σ τ : Hp), Rl σ τ → ∀ (p0 : Int32), ∃ r : Int32, t_X6_mend N p0 σ = some r ∧ t_X7_mend N p0 τ = some r ∧ Rl σ τ) (hC : Cx p m c cL_law 4 s #[Value.ref b] wsU RL D cy) (hX : va_X b L xs s s.heap) (hbl : b < s.heap.size) (hbA : ¬ (fun q : Nat => s.heap.size ≤ q) b) (hST : ST t0 (fun q => s.heap.size ≤ q) s) {x3 a1 a2 a3 : Int32} (hi1 : vp_in (x3 + 1) L) (hi2 : vp_in (x3 + 2) L) (hi3 : vp_in (x3 + 3) L) (ea1 : a1 = xs (x3 + 1).toNatClampNeg) (ea2 : a2 = xs (x3 + 2).toNatClampNeg) (ea3 : a3 = xs (x3 + 3).toNatClampNeg) {σ τ : Hp} (hR : Rl σ τ) {H : Heap} {locs : List Loc} (hV : LW D cy 55 shX adX 27 shM adM (fun q => s.heap.size ≤ q) s.heap σ τ H locs) {ls : Array Slot} (hl : lv_has ls 4 [(0, .ref b), (1, .ref (adX 0)), (2, .ref (adM 0)), (3, .int x3)]) (next : ∀ (σ1 τ1 : Hp), Rl σ1 τ1 → ∀ (H : Heap) (locs : List Loc), LW D cy 55 shX adX 27 shM adM (fun q => s.heap.size ≤ q) s.heap σ1 τ1 H locs → W p l e room_1 s m #[Value.ref b] below meth c H locs 600000 7302250 (lw_Z below #[Value.ref b] s) (F0 m 986 ls [])) : W p l e room_1 s m #[Value.ref b] below meth c H locs 600000 7302250 (lw_Z below #[Value.ref b] s) (F0 m 717 ls []) := by
  have hx := hC.1.1
  have hb := hC.1.2.1
  have hts := hC.1.2.2.2.2
  refine lv_aload_n hx hb dL_law_717 rfl (lv_at hl 1 rfl) ?_
  refine lv_aload_n hx hb dL_law_718 rfl (lv_at hl 0 rfl) ?_
  refine lv_iload_n hx hb dL_law_719 rfl (lv_at hl 3 rfl) ?_
  refine lv_iconst (v := 1) hx hb dL_law_720 (by decide) ?_
  refine lv_iadd hx hb dL_law_721 ?_
  refine va_sld hx hb hX hbl hbA hV.2.2.2.2.2.1 hi1 dL_law_722 ?_
  rw [← ea1]
  obtain ⟨r, e1, e2, hR1⟩ := hk21 σ τ hR a1
  refine law_i (As := [.int a1]) (rest := []) hC hV (fun A1 => c_X6_mend l D cy adX A1 N _ _ _ e1) (cwV 1 hts (gdV wd_851 wd_687 wd_688 wd_5 wd_686) rfl rfl rfl (by decide +kernel) ⟨Nat.le_of_ble_eq_true rfl, Nat.le_of_ble_eq_true rfl⟩) (Nat.le_of_ble_eq_true rfl) rfl rfl rfl hl.1 (Nat.le_of_ble_eq_true rfl) dL_law_723 ⟨Nat.le_of_ble_eq_true rfl, Nat.le_of_ble_eq_true rfl⟩ (fun H1 locs1 hV1 => ?_)
  replace hV := hV1
  clear hV1
  refine lv_aload_n hx hb dL_law_726 rfl (lv_at hl 2 rfl) ?_
  refine lv_aload_n hx hb dL_law_727 rfl (lv_at hl 0 rfl) ?_
  refine lv_iload_n hx hb dL_law_728 rfl (lv_at hl 3 rfl) ?_
  refine lv_iconst (v := 1) hx hb dL_law_729 (by decide) ?_
  refine lv_iadd hx hb dL_law_730 ?_
  refine va_sld hx hb hX hbl hbA hV.2.2.2.2.2.1 hi1 dL_law_731 ?_
  rw [← ea1]
  refine law_i (As := [.int a1]) (rest := [.int r]) hC hV.swap (fun A1 => c_X7_mend l D cy adM A1 N _ _ _ e2) (cwV 1 hts (gdV wd_852 wd_777 wd_778 wd_300 wd_776) rfl rfl rfl (by decide +kernel) ⟨Nat.le_of_ble_eq_true rfl, Nat.le_of_ble_eq_true rfl⟩) (Nat.le_of_ble_eq_true rfl) rfl rfl rfl hl.1 (Nat.le_of_ble_eq_true rfl) dL_law_732 ⟨Nat.le_of_ble_eq_true rfl, Nat.le_of_ble_eq_true rfl⟩ (fun H1 locs1 hV1 => ?_)
  replace hV := hV1.swap
  clear hV1
  refine lv_icmp_eq (tgt := 986) hx hb dL_law_735 (by decide) (fun _ => ?_) (fun cz => absurd rfl cz)
  exact next _ _ hR1 _ _ hV
set_option maxHeartbeats 8000000 in
set_option maxRecDepth 100000 in
theorem law_case22 {p : Program} {l : Launch} {e : Env} {s : State} {m : MethodId} {below : List Frame} {meth : Method} {c : Code} {D : va_G} {cy : ClassId × ClassId} {b L t0 : Nat} {xs : Nat → Int32} {adX adM : Nat → Nat} {N : Nat} {Rl : Hp → Hp → Prop} (hk22 : ∀ (σ τ : Hp), Rl σ τ → ∀ (p0 : Int32), ∃ r : Int32, t_X6_soonest N p0 σ = some r ∧ t_X7_soonest N p0 τ = some r ∧ Rl σ τ) (hC : Cx p m c cL_law 4 s #[Value.ref b] wsU RL D cy) (hX : va_X b L xs s s.heap) (hbl : b < s.heap.size) (hbA : ¬ (fun q : Nat => s.heap.size ≤ q) b) (hST : ST t0 (fun q => s.heap.size ≤ q) s) {x3 a1 a2 a3 : Int32} (hi1 : vp_in (x3 + 1) L) (hi2 : vp_in (x3 + 2) L) (hi3 : vp_in (x3 + 3) L) (ea1 : a1 = xs (x3 + 1).toNatClampNeg) (ea2 : a2 = xs (x3 + 2).toNatClampNeg) (ea3 : a3 = xs (x3 + 3).toNatClampNeg) {σ τ : Hp} (hR : Rl σ τ) {H : Heap} {locs : List Loc} (hV : LW D cy 55 shX adX 27 shM adM (fun q => s.heap.size ≤ q) s.heap σ τ H locs) {ls : Array Slot} (hl : lv_has ls 4 [(0, .ref b), (1, .ref (adX 0)), (2, .ref (adM 0)), (3, .int x3)]) (next : ∀ (σ1 τ1 : Hp), Rl σ1 τ1 → ∀ (H : Heap) (locs : List Loc), LW D cy 55 shX adX 27 shM adM (fun q => s.heap.size ≤ q) s.heap σ1 τ1 H locs → W p l e room_1 s m #[Value.ref b] below meth c H locs 600000 7302250 (lw_Z below #[Value.ref b] s) (F0 m 986 ls [])) : W p l e room_1 s m #[Value.ref b] below meth c H locs 600000 7302250 (lw_Z below #[Value.ref b] s) (F0 m 740 ls []) := by
  have hx := hC.1.1
  have hb := hC.1.2.1
  have hts := hC.1.2.2.2.2
  refine lv_aload_n hx hb dL_law_740 rfl (lv_at hl 1 rfl) ?_
  refine lv_aload_n hx hb dL_law_741 rfl (lv_at hl 0 rfl) ?_
  refine lv_iload_n hx hb dL_law_742 rfl (lv_at hl 3 rfl) ?_
  refine lv_iconst (v := 1) hx hb dL_law_743 (by decide) ?_
  refine lv_iadd hx hb dL_law_744 ?_
  refine va_sld hx hb hX hbl hbA hV.2.2.2.2.2.1 hi1 dL_law_745 ?_
  rw [← ea1]
  obtain ⟨r, e1, e2, hR1⟩ := hk22 σ τ hR a1
  refine law_i (As := [.int a1]) (rest := []) hC hV (fun A1 => c_X6_soonest l D cy adX A1 N _ _ _ e1) (cwV 1 hts (gdV wd_853 wd_690 wd_691 wd_5 wd_689) rfl rfl rfl (by decide +kernel) ⟨Nat.le_of_ble_eq_true rfl, Nat.le_of_ble_eq_true rfl⟩) (Nat.le_of_ble_eq_true rfl) rfl rfl rfl hl.1 (Nat.le_of_ble_eq_true rfl) dL_law_746 ⟨Nat.le_of_ble_eq_true rfl, Nat.le_of_ble_eq_true rfl⟩ (fun H1 locs1 hV1 => ?_)
  replace hV := hV1
  clear hV1
  refine lv_aload_n hx hb dL_law_749 rfl (lv_at hl 2 rfl) ?_
  refine lv_aload_n hx hb dL_law_750 rfl (lv_at hl 0 rfl) ?_
  refine lv_iload_n hx hb dL_law_751 rfl (lv_at hl 3 rfl) ?_
  refine lv_iconst (v := 1) hx hb dL_law_752 (by decide) ?_
  refine lv_iadd hx hb dL_law_753 ?_
  refine va_sld hx hb hX hbl hbA hV.2.2.2.2.2.1 hi1 dL_law_754 ?_
  rw [← ea1]
  refine law_i (As := [.int a1]) (rest := [.int r]) hC hV.swap (fun A1 => c_X7_soonest l D cy adM A1 N _ _ _ e2) (cwV 1 hts (gdV wd_854 wd_780 wd_781 wd_300 wd_779) rfl rfl rfl (by decide +kernel) ⟨Nat.le_of_ble_eq_true rfl, Nat.le_of_ble_eq_true rfl⟩) (Nat.le_of_ble_eq_true rfl) rfl rfl rfl hl.1 (Nat.le_of_ble_eq_true rfl) dL_law_755 ⟨Nat.le_of_ble_eq_true rfl, Nat.le_of_ble_eq_true rfl⟩ (fun H1 locs1 hV1 => ?_)
  replace hV := hV1.swap
  clear hV1
  refine lv_icmp_eq (tgt := 986) hx hb dL_law_758 (by decide) (fun _ => ?_) (fun cz => absurd rfl cz)
  exact next _ _ hR1 _ _ hV
set_option maxHeartbeats 8000000 in
set_option maxRecDepth 100000 in
theorem law_case23 {p : Program} {l : Launch} {e : Env} {s : State} {m : MethodId} {below : List Frame} {meth : Method} {c : Code} {D : va_G} {cy : ClassId × ClassId} {b L t0 : Nat} {xs : Nat → Int32} {adX adM : Nat → Nat} {N : Nat} {Rl : Hp → Hp → Prop} (hk23 : ∀ (σ τ : Hp), Rl σ τ → ∀ (p0 : Int32) (p1 : Int32), ∃ r : Int32, ∃ τ1 : Hp, t_X6_rests N p0 p1 σ = some r ∧ t_X7_rests N p0 p1 τ = some (r, τ1) ∧ Rl σ τ1) (hC : Cx p m c cL_law 4 s #[Value.ref b] wsU RL D cy) (hX : va_X b L xs s s.heap) (hbl : b < s.heap.size) (hbA : ¬ (fun q : Nat => s.heap.size ≤ q) b) (hST : ST t0 (fun q => s.heap.size ≤ q) s) {x3 a1 a2 a3 : Int32} (hi1 : vp_in (x3 + 1) L) (hi2 : vp_in (x3 + 2) L) (hi3 : vp_in (x3 + 3) L) (ea1 : a1 = xs (x3 + 1).toNatClampNeg) (ea2 : a2 = xs (x3 + 2).toNatClampNeg) (ea3 : a3 = xs (x3 + 3).toNatClampNeg) {σ τ : Hp} (hR : Rl σ τ) {H : Heap} {locs : List Loc} (hV : LW D cy 55 shX adX 27 shM adM (fun q => s.heap.size ≤ q) s.heap σ τ H locs) {ls : Array Slot} (hl : lv_has ls 4 [(0, .ref b), (1, .ref (adX 0)), (2, .ref (adM 0)), (3, .int x3)]) (next : ∀ (σ1 τ1 : Hp), Rl σ1 τ1 → ∀ (H : Heap) (locs : List Loc), LW D cy 55 shX adX 27 shM adM (fun q => s.heap.size ≤ q) s.heap σ1 τ1 H locs → W p l e room_1 s m #[Value.ref b] below meth c H locs 600000 7302250 (lw_Z below #[Value.ref b] s) (F0 m 986 ls [])) : W p l e room_1 s m #[Value.ref b] below meth c H locs 600000 7302250 (lw_Z below #[Value.ref b] s) (F0 m 763 ls []) := by
  have hx := hC.1.1
  have hb := hC.1.2.1
  have hts := hC.1.2.2.2.2
  refine lv_aload_n hx hb dL_law_763 rfl (lv_at hl 1 rfl) ?_
  refine lv_aload_n hx hb dL_law_764 rfl (lv_at hl 0 rfl) ?_
  refine lv_iload_n hx hb dL_law_765 rfl (lv_at hl 3 rfl) ?_
  refine lv_iconst (v := 1) hx hb dL_law_766 (by decide) ?_
  refine lv_iadd hx hb dL_law_767 ?_
  refine va_sld hx hb hX hbl hbA hV.2.2.2.2.2.1 hi1 dL_law_768 ?_
  rw [← ea1]
  refine lv_aload_n hx hb dL_law_769 rfl (lv_at hl 0 rfl) ?_
  refine lv_iload_n hx hb dL_law_770 rfl (lv_at hl 3 rfl) ?_
  refine lv_iconst (v := 2) hx hb dL_law_771 (by decide) ?_
  refine lv_iadd hx hb dL_law_772 ?_
  refine va_sld hx hb hX hbl hbA hV.2.2.2.2.2.1 hi2 dL_law_773 ?_
  rw [← ea2]
  obtain ⟨r, τ1, e1, e2, hR1⟩ := hk23 σ τ hR a1 a2
  refine law_i (As := [.int a1, .int a2]) (rest := []) hC hV (fun A1 => c_X6_rests l D cy adX A1 N _ _ _ _ e1) (cwV 2 hts (gdV wd_855 wd_693 wd_694 wd_5 wd_692) rfl rfl rfl (by decide +kernel) ⟨Nat.le_of_ble_eq_true rfl, Nat.le_of_ble_eq_true rfl⟩) (Nat.le_of_ble_eq_true rfl) rfl rfl rfl hl.1 (Nat.le_of_ble_eq_true rfl) dL_law_774 ⟨Nat.le_of_ble_eq_true rfl, Nat.le_of_ble_eq_true rfl⟩ (fun H1 locs1 hV1 => ?_)
  replace hV := hV1
  clear hV1
  refine lv_aload_n hx hb dL_law_777 rfl (lv_at hl 2 rfl) ?_
  refine lv_aload_n hx hb dL_law_778 rfl (lv_at hl 0 rfl) ?_
  refine lv_iload_n hx hb dL_law_779 rfl (lv_at hl 3 rfl) ?_
  refine lv_iconst (v := 1) hx hb dL_law_780 (by decide) ?_
  refine lv_iadd hx hb dL_law_781 ?_
  refine va_sld hx hb hX hbl hbA hV.2.2.2.2.2.1 hi1 dL_law_782 ?_
  rw [← ea1]
  refine lv_aload_n hx hb dL_law_783 rfl (lv_at hl 0 rfl) ?_
  refine lv_iload_n hx hb dL_law_784 rfl (lv_at hl 3 rfl) ?_
  refine lv_iconst (v := 2) hx hb dL_law_785 (by decide) ?_
  refine lv_iadd hx hb dL_law_786 ?_
  refine va_sld hx hb hX hbl hbA hV.2.2.2.2.2.1 hi2 dL_law_787 ?_
  rw [← ea2]
  refine law_i (As := [.int a1, .int a2]) (rest := [.int r]) hC hV.swap (fun A1 => c_X7_rests l D cy adM A1 N _ _ _ _ _ e2) (cwV 2 hts (gdV wd_856 wd_783 wd_784 wd_300 wd_782) rfl rfl rfl (by decide +kernel) ⟨Nat.le_of_ble_eq_true rfl, Nat.le_of_ble_eq_true rfl⟩) (Nat.le_of_ble_eq_true rfl) rfl rfl rfl hl.1 (Nat.le_of_ble_eq_true rfl) dL_law_788 ⟨Nat.le_of_ble_eq_true rfl, Nat.le_of_ble_eq_true rfl⟩ (fun H1 locs1 hV1 => ?_)
  replace hV := hV1.swap
  clear hV1
  refine lv_icmp_eq (tgt := 986) hx hb dL_law_791 (by decide) (fun _ => ?_) (fun cz => absurd rfl cz)
  exact next _ _ hR1 _ _ hV
set_option maxHeartbeats 8000000 in
set_option maxRecDepth 100000 in
theorem law_case24 {p : Program} {l : Launch} {e : Env} {s : State} {m : MethodId} {below : List Frame} {meth : Method} {c : Code} {D : va_G} {cy : ClassId × ClassId} {b L t0 : Nat} {xs : Nat → Int32} {adX adM : Nat → Nat} {N : Nat} {Rl : Hp → Hp → Prop} (hk24 : ∀ (σ τ : Hp), Rl σ τ → ∀ (p0 : Int32) (p1 : Int32), ∃ r : Int64, ∃ τ1 : Hp, t_X6_shapley N p0 p1 σ = some r ∧ t_X7_shapley N p0 p1 τ = some (r, τ1) ∧ Rl σ τ1) (hC : Cx p m c cL_law 4 s #[Value.ref b] wsU RL D cy) (hX : va_X b L xs s s.heap) (hbl : b < s.heap.size) (hbA : ¬ (fun q : Nat => s.heap.size ≤ q) b) (hST : ST t0 (fun q => s.heap.size ≤ q) s) {x3 a1 a2 a3 : Int32} (hi1 : vp_in (x3 + 1) L) (hi2 : vp_in (x3 + 2) L) (hi3 : vp_in (x3 + 3) L) (ea1 : a1 = xs (x3 + 1).toNatClampNeg) (ea2 : a2 = xs (x3 + 2).toNatClampNeg) (ea3 : a3 = xs (x3 + 3).toNatClampNeg) {σ τ : Hp} (hR : Rl σ τ) {H : Heap} {locs : List Loc} (hV : LW D cy 55 shX adX 27 shM adM (fun q => s.heap.size ≤ q) s.heap σ τ H locs) {ls : Array Slot} (hl : lv_has ls 4 [(0, .ref b), (1, .ref (adX 0)), (2, .ref (adM 0)), (3, .int x3)]) (next : ∀ (σ1 τ1 : Hp), Rl σ1 τ1 → ∀ (H : Heap) (locs : List Loc), LW D cy 55 shX adX 27 shM adM (fun q => s.heap.size ≤ q) s.heap σ1 τ1 H locs → W p l e room_1 s m #[Value.ref b] below meth c H locs 600000 7302250 (lw_Z below #[Value.ref b] s) (F0 m 986 ls [])) : W p l e room_1 s m #[Value.ref b] below meth c H locs 600000 7302250 (lw_Z below #[Value.ref b] s) (F0 m 796 ls []) := by
  have hx := hC.1.1
  have hb := hC.1.2.1
  have hts := hC.1.2.2.2.2
  refine lv_aload_n hx hb dL_law_796 rfl (lv_at hl 1 rfl) ?_
  refine lv_aload_n hx hb dL_law_797 rfl (lv_at hl 0 rfl) ?_
  refine lv_iload_n hx hb dL_law_798 rfl (lv_at hl 3 rfl) ?_
  refine lv_iconst (v := 1) hx hb dL_law_799 (by decide) ?_
  refine lv_iadd hx hb dL_law_800 ?_
  refine va_sld hx hb hX hbl hbA hV.2.2.2.2.2.1 hi1 dL_law_801 ?_
  rw [← ea1]
  refine lv_aload_n hx hb dL_law_802 rfl (lv_at hl 0 rfl) ?_
  refine lv_iload_n hx hb dL_law_803 rfl (lv_at hl 3 rfl) ?_
  refine lv_iconst (v := 2) hx hb dL_law_804 (by decide) ?_
  refine lv_iadd hx hb dL_law_805 ?_
  refine va_sld hx hb hX hbl hbA hV.2.2.2.2.2.1 hi2 dL_law_806 ?_
  rw [← ea2]
  obtain ⟨r, τ1, e1, e2, hR1⟩ := hk24 σ τ hR a1 a2
  refine law_lT hST (As := [.int a1, .int a2]) (rest := []) hC hV (fun A1 => c_X6_shapley l D cy adX A1 t0 N _ _ _ _ e1) (cwV 2 hts (gdV wd_857 wd_696 wd_697 wd_5 wd_695) rfl rfl rfl (by decide +kernel) ⟨Nat.le_of_ble_eq_true rfl, Nat.le_of_ble_eq_true rfl⟩) (Nat.le_of_ble_eq_true rfl) rfl rfl rfl hl.1 (Nat.le_of_ble_eq_true rfl) dL_law_807 ⟨Nat.le_of_ble_eq_true rfl, Nat.le_of_ble_eq_true rfl⟩ (fun H1 locs1 hV1 => ?_)
  replace hV := hV1
  clear hV1
  refine lv_aload_n hx hb dL_law_810 rfl (lv_at hl 2 rfl) ?_
  refine lv_aload_n hx hb dL_law_811 rfl (lv_at hl 0 rfl) ?_
  refine lv_iload_n hx hb dL_law_812 rfl (lv_at hl 3 rfl) ?_
  refine lv_iconst (v := 1) hx hb dL_law_813 (by decide) ?_
  refine lv_iadd hx hb dL_law_814 ?_
  refine va_sld hx hb hX hbl hbA hV.2.2.2.2.2.1 hi1 dL_law_815 ?_
  rw [← ea1]
  refine lv_aload_n hx hb dL_law_816 rfl (lv_at hl 0 rfl) ?_
  refine lv_iload_n hx hb dL_law_817 rfl (lv_at hl 3 rfl) ?_
  refine lv_iconst (v := 2) hx hb dL_law_818 (by decide) ?_
  refine lv_iadd hx hb dL_law_819 ?_
  refine va_sld hx hb hX hbl hbA hV.2.2.2.2.2.1 hi2 dL_law_820 ?_
  rw [← ea2]
  refine law_l (As := [.int a1, .int a2]) (rest := [.long r]) hC hV.swap (fun A1 => c_X7_shapley l D cy adM A1 N _ _ _ _ _ e2) (cwV 2 hts (gdV wd_858 wd_786 wd_787 wd_300 wd_785) rfl rfl rfl (by decide +kernel) ⟨Nat.le_of_ble_eq_true rfl, Nat.le_of_ble_eq_true rfl⟩) (Nat.le_of_ble_eq_true rfl) rfl rfl rfl hl.1 (Nat.le_of_ble_eq_true rfl) dL_law_821 ⟨Nat.le_of_ble_eq_true rfl, Nat.le_of_ble_eq_true rfl⟩ (fun H1 locs1 hV1 => ?_)
  replace hV := hV1.swap
  clear hV1
  refine W.lcmp hx hb dL_law_824 ?_
  rw [lg_self]
  refine lv_if_eq (tgt := 986) hx hb dL_law_825 (by decide) (fun _ => ?_) (fun cz => absurd rfl cz)
  exact next _ _ hR1 _ _ hV
set_option maxHeartbeats 8000000 in
set_option maxRecDepth 100000 in
theorem law_case25 {p : Program} {l : Launch} {e : Env} {s : State} {m : MethodId} {below : List Frame} {meth : Method} {c : Code} {D : va_G} {cy : ClassId × ClassId} {b L t0 : Nat} {xs : Nat → Int32} {adX adM : Nat → Nat} {N : Nat} {Rl : Hp → Hp → Prop} (hk25 : ∀ (σ τ : Hp), Rl σ τ → ∀ (p0 : Int32) (p1 : Int32) (p2 : Int32), ∃ r : Int64, t_X6_hope N p0 p1 p2 σ = some r ∧ t_X7_hope N p0 p1 p2 τ = some r ∧ Rl σ τ) (hC : Cx p m c cL_law 4 s #[Value.ref b] wsU RL D cy) (hX : va_X b L xs s s.heap) (hbl : b < s.heap.size) (hbA : ¬ (fun q : Nat => s.heap.size ≤ q) b) (hST : ST t0 (fun q => s.heap.size ≤ q) s) {x3 a1 a2 a3 : Int32} (hi1 : vp_in (x3 + 1) L) (hi2 : vp_in (x3 + 2) L) (hi3 : vp_in (x3 + 3) L) (ea1 : a1 = xs (x3 + 1).toNatClampNeg) (ea2 : a2 = xs (x3 + 2).toNatClampNeg) (ea3 : a3 = xs (x3 + 3).toNatClampNeg) {σ τ : Hp} (hR : Rl σ τ) {H : Heap} {locs : List Loc} (hV : LW D cy 55 shX adX 27 shM adM (fun q => s.heap.size ≤ q) s.heap σ τ H locs) {ls : Array Slot} (hl : lv_has ls 4 [(0, .ref b), (1, .ref (adX 0)), (2, .ref (adM 0)), (3, .int x3)]) (next : ∀ (σ1 τ1 : Hp), Rl σ1 τ1 → ∀ (H : Heap) (locs : List Loc), LW D cy 55 shX adX 27 shM adM (fun q => s.heap.size ≤ q) s.heap σ1 τ1 H locs → W p l e room_1 s m #[Value.ref b] below meth c H locs 600000 7302250 (lw_Z below #[Value.ref b] s) (F0 m 986 ls [])) : W p l e room_1 s m #[Value.ref b] below meth c H locs 600000 7302250 (lw_Z below #[Value.ref b] s) (F0 m 830 ls []) := by
  have hx := hC.1.1
  have hb := hC.1.2.1
  have hts := hC.1.2.2.2.2
  refine lv_aload_n hx hb dL_law_830 rfl (lv_at hl 1 rfl) ?_
  refine lv_aload_n hx hb dL_law_831 rfl (lv_at hl 0 rfl) ?_
  refine lv_iload_n hx hb dL_law_832 rfl (lv_at hl 3 rfl) ?_
  refine lv_iconst (v := 1) hx hb dL_law_833 (by decide) ?_
  refine lv_iadd hx hb dL_law_834 ?_
  refine va_sld hx hb hX hbl hbA hV.2.2.2.2.2.1 hi1 dL_law_835 ?_
  rw [← ea1]
  refine lv_aload_n hx hb dL_law_836 rfl (lv_at hl 0 rfl) ?_
  refine lv_iload_n hx hb dL_law_837 rfl (lv_at hl 3 rfl) ?_
  refine lv_iconst (v := 2) hx hb dL_law_838 (by decide) ?_
  refine lv_iadd hx hb dL_law_839 ?_
  refine va_sld hx hb hX hbl hbA hV.2.2.2.2.2.1 hi2 dL_law_840 ?_
  rw [← ea2]
  refine lv_aload_n hx hb dL_law_841 rfl (lv_at hl 0 rfl) ?_
  refine lv_iload_n hx hb dL_law_842 rfl (lv_at hl 3 rfl) ?_
  refine lv_iconst (v := 3) hx hb dL_law_843 (by decide) ?_
  refine lv_iadd hx hb dL_law_844 ?_
  refine va_sld hx hb hX hbl hbA hV.2.2.2.2.2.1 hi3 dL_law_845 ?_
  rw [← ea3]
  obtain ⟨r, e1, e2, hR1⟩ := hk25 σ τ hR a1 a2 a3
  refine law_l (As := [.int a1, .int a2, .int a3]) (rest := []) hC hV (fun A1 => c_X6_hope l D cy adX A1 N _ _ _ _ _ e1) (cwV 3 hts (gdV wd_859 wd_699 wd_700 wd_5 wd_698) rfl rfl rfl (by decide +kernel) ⟨Nat.le_of_ble_eq_true rfl, Nat.le_of_ble_eq_true rfl⟩) (Nat.le_of_ble_eq_true rfl) rfl rfl rfl hl.1 (Nat.le_of_ble_eq_true rfl) dL_law_846 ⟨Nat.le_of_ble_eq_true rfl, Nat.le_of_ble_eq_true rfl⟩ (fun H1 locs1 hV1 => ?_)
  replace hV := hV1
  clear hV1
  refine lv_aload_n hx hb dL_law_849 rfl (lv_at hl 2 rfl) ?_
  refine lv_aload_n hx hb dL_law_850 rfl (lv_at hl 0 rfl) ?_
  refine lv_iload_n hx hb dL_law_851 rfl (lv_at hl 3 rfl) ?_
  refine lv_iconst (v := 1) hx hb dL_law_852 (by decide) ?_
  refine lv_iadd hx hb dL_law_853 ?_
  refine va_sld hx hb hX hbl hbA hV.2.2.2.2.2.1 hi1 dL_law_854 ?_
  rw [← ea1]
  refine lv_aload_n hx hb dL_law_855 rfl (lv_at hl 0 rfl) ?_
  refine lv_iload_n hx hb dL_law_856 rfl (lv_at hl 3 rfl) ?_
  refine lv_iconst (v := 2) hx hb dL_law_857 (by decide) ?_
  refine lv_iadd hx hb dL_law_858 ?_
  refine va_sld hx hb hX hbl hbA hV.2.2.2.2.2.1 hi2 dL_law_859 ?_
  rw [← ea2]
  refine lv_aload_n hx hb dL_law_860 rfl (lv_at hl 0 rfl) ?_
  refine lv_iload_n hx hb dL_law_861 rfl (lv_at hl 3 rfl) ?_
  refine lv_iconst (v := 3) hx hb dL_law_862 (by decide) ?_
  refine lv_iadd hx hb dL_law_863 ?_
  refine va_sld hx hb hX hbl hbA hV.2.2.2.2.2.1 hi3 dL_law_864 ?_
  rw [← ea3]
  refine law_l (As := [.int a1, .int a2, .int a3]) (rest := [.long r]) hC hV.swap (fun A1 => c_X7_hope l D cy adM A1 N _ _ _ _ _ e2) (cwV 3 hts (gdV wd_860 wd_789 wd_790 wd_300 wd_788) rfl rfl rfl (by decide +kernel) ⟨Nat.le_of_ble_eq_true rfl, Nat.le_of_ble_eq_true rfl⟩) (Nat.le_of_ble_eq_true rfl) rfl rfl rfl hl.1 (Nat.le_of_ble_eq_true rfl) dL_law_865 ⟨Nat.le_of_ble_eq_true rfl, Nat.le_of_ble_eq_true rfl⟩ (fun H1 locs1 hV1 => ?_)
  replace hV := hV1.swap
  clear hV1
  refine W.lcmp hx hb dL_law_868 ?_
  rw [lg_self]
  refine lv_if_eq (tgt := 986) hx hb dL_law_869 (by decide) (fun _ => ?_) (fun cz => absurd rfl cz)
  exact next _ _ hR1 _ _ hV
set_option maxHeartbeats 8000000 in
set_option maxRecDepth 100000 in
theorem law_case26 {p : Program} {l : Launch} {e : Env} {s : State} {m : MethodId} {below : List Frame} {meth : Method} {c : Code} {D : va_G} {cy : ClassId × ClassId} {b L t0 : Nat} {xs : Nat → Int32} {adX adM : Nat → Nat} {N : Nat} {Rl : Hp → Hp → Prop} (hk26 : ∀ (σ τ : Hp), Rl σ τ → ∀ (p0 : Int32) (p1 : Int32) (p2 : Int32), ∃ r : Int32, ∃ σ1 : Hp, ∃ τ1 : Hp, t_X6_year N p0 p1 p2 σ = some (r, σ1) ∧ t_X7_year N p0 p1 p2 τ = some (r, τ1) ∧ Rl σ1 τ1) (hC : Cx p m c cL_law 4 s #[Value.ref b] wsU RL D cy) (hX : va_X b L xs s s.heap) (hbl : b < s.heap.size) (hbA : ¬ (fun q : Nat => s.heap.size ≤ q) b) (hST : ST t0 (fun q => s.heap.size ≤ q) s) {x3 a1 a2 a3 : Int32} (hi1 : vp_in (x3 + 1) L) (hi2 : vp_in (x3 + 2) L) (hi3 : vp_in (x3 + 3) L) (ea1 : a1 = xs (x3 + 1).toNatClampNeg) (ea2 : a2 = xs (x3 + 2).toNatClampNeg) (ea3 : a3 = xs (x3 + 3).toNatClampNeg) {σ τ : Hp} (hR : Rl σ τ) {H : Heap} {locs : List Loc} (hV : LW D cy 55 shX adX 27 shM adM (fun q => s.heap.size ≤ q) s.heap σ τ H locs) {ls : Array Slot} (hl : lv_has ls 4 [(0, .ref b), (1, .ref (adX 0)), (2, .ref (adM 0)), (3, .int x3)]) (next : ∀ (σ1 τ1 : Hp), Rl σ1 τ1 → ∀ (H : Heap) (locs : List Loc), LW D cy 55 shX adX 27 shM adM (fun q => s.heap.size ≤ q) s.heap σ1 τ1 H locs → W p l e room_1 s m #[Value.ref b] below meth c H locs 600000 7302250 (lw_Z below #[Value.ref b] s) (F0 m 986 ls [])) : W p l e room_1 s m #[Value.ref b] below meth c H locs 600000 7302250 (lw_Z below #[Value.ref b] s) (F0 m 874 ls []) := by
  have hx := hC.1.1
  have hb := hC.1.2.1
  have hts := hC.1.2.2.2.2
  refine lv_aload_n hx hb dL_law_874 rfl (lv_at hl 1 rfl) ?_
  refine lv_aload_n hx hb dL_law_875 rfl (lv_at hl 0 rfl) ?_
  refine lv_iload_n hx hb dL_law_876 rfl (lv_at hl 3 rfl) ?_
  refine lv_iconst (v := 1) hx hb dL_law_877 (by decide) ?_
  refine lv_iadd hx hb dL_law_878 ?_
  refine va_sld hx hb hX hbl hbA hV.2.2.2.2.2.1 hi1 dL_law_879 ?_
  rw [← ea1]
  refine lv_aload_n hx hb dL_law_880 rfl (lv_at hl 0 rfl) ?_
  refine lv_iload_n hx hb dL_law_881 rfl (lv_at hl 3 rfl) ?_
  refine lv_iconst (v := 2) hx hb dL_law_882 (by decide) ?_
  refine lv_iadd hx hb dL_law_883 ?_
  refine va_sld hx hb hX hbl hbA hV.2.2.2.2.2.1 hi2 dL_law_884 ?_
  rw [← ea2]
  refine lv_aload_n hx hb dL_law_885 rfl (lv_at hl 0 rfl) ?_
  refine lv_iload_n hx hb dL_law_886 rfl (lv_at hl 3 rfl) ?_
  refine lv_iconst (v := 3) hx hb dL_law_887 (by decide) ?_
  refine lv_iadd hx hb dL_law_888 ?_
  refine va_sld hx hb hX hbl hbA hV.2.2.2.2.2.1 hi3 dL_law_889 ?_
  rw [← ea3]
  obtain ⟨r, σ1, τ1, e1, e2, hR1⟩ := hk26 σ τ hR a1 a2 a3
  refine law_i (As := [.int a1, .int a2, .int a3]) (rest := []) hC hV (fun A1 => c_X6_year l D cy adX A1 N _ _ _ _ _ _ e1) (cwV 3 hts (gdV wd_861 wd_702 wd_703 wd_5 wd_701) rfl rfl rfl (by decide +kernel) ⟨Nat.le_of_ble_eq_true rfl, Nat.le_of_ble_eq_true rfl⟩) (Nat.le_of_ble_eq_true rfl) rfl rfl rfl hl.1 (Nat.le_of_ble_eq_true rfl) dL_law_890 ⟨Nat.le_of_ble_eq_true rfl, Nat.le_of_ble_eq_true rfl⟩ (fun H1 locs1 hV1 => ?_)
  replace hV := hV1
  clear hV1
  refine lv_aload_n hx hb dL_law_893 rfl (lv_at hl 2 rfl) ?_
  refine lv_aload_n hx hb dL_law_894 rfl (lv_at hl 0 rfl) ?_
  refine lv_iload_n hx hb dL_law_895 rfl (lv_at hl 3 rfl) ?_
  refine lv_iconst (v := 1) hx hb dL_law_896 (by decide) ?_
  refine lv_iadd hx hb dL_law_897 ?_
  refine va_sld hx hb hX hbl hbA hV.2.2.2.2.2.1 hi1 dL_law_898 ?_
  rw [← ea1]
  refine lv_aload_n hx hb dL_law_899 rfl (lv_at hl 0 rfl) ?_
  refine lv_iload_n hx hb dL_law_900 rfl (lv_at hl 3 rfl) ?_
  refine lv_iconst (v := 2) hx hb dL_law_901 (by decide) ?_
  refine lv_iadd hx hb dL_law_902 ?_
  refine va_sld hx hb hX hbl hbA hV.2.2.2.2.2.1 hi2 dL_law_903 ?_
  rw [← ea2]
  refine lv_aload_n hx hb dL_law_904 rfl (lv_at hl 0 rfl) ?_
  refine lv_iload_n hx hb dL_law_905 rfl (lv_at hl 3 rfl) ?_
  refine lv_iconst (v := 3) hx hb dL_law_906 (by decide) ?_
  refine lv_iadd hx hb dL_law_907 ?_
  refine va_sld hx hb hX hbl hbA hV.2.2.2.2.2.1 hi3 dL_law_908 ?_
  rw [← ea3]
  refine law_i (As := [.int a1, .int a2, .int a3]) (rest := [.int r]) hC hV.swap (fun A1 => c_X7_year l D cy adM A1 N _ _ _ _ _ _ e2) (cwV 3 hts (gdV wd_862 wd_792 wd_793 wd_300 wd_791) rfl rfl rfl (by decide +kernel) ⟨Nat.le_of_ble_eq_true rfl, Nat.le_of_ble_eq_true rfl⟩) (Nat.le_of_ble_eq_true rfl) rfl rfl rfl hl.1 (Nat.le_of_ble_eq_true rfl) dL_law_909 ⟨Nat.le_of_ble_eq_true rfl, Nat.le_of_ble_eq_true rfl⟩ (fun H1 locs1 hV1 => ?_)
  replace hV := hV1.swap
  clear hV1
  refine lv_icmp_eq (tgt := 986) hx hb dL_law_912 (by decide) (fun _ => ?_) (fun cz => absurd rfl cz)
  exact next _ _ hR1 _ _ hV
set_option maxHeartbeats 8000000 in
set_option maxRecDepth 100000 in
theorem law_case27 {p : Program} {l : Launch} {e : Env} {s : State} {m : MethodId} {below : List Frame} {meth : Method} {c : Code} {D : va_G} {cy : ClassId × ClassId} {b L t0 : Nat} {xs : Nat → Int32} {adX adM : Nat → Nat} {N : Nat} {Rl : Hp → Hp → Prop} (hk27 : ∀ (σ τ : Hp), Rl σ τ → ∀ (p0 : Int32), ∃ r : Int32, ∃ σ1 : Hp, ∃ τ1 : Hp, t_X6_image N p0 σ = some (r, σ1) ∧ t_X7_image N p0 τ = some (r, τ1) ∧ Rl σ1 τ1) (hC : Cx p m c cL_law 4 s #[Value.ref b] wsU RL D cy) (hX : va_X b L xs s s.heap) (hbl : b < s.heap.size) (hbA : ¬ (fun q : Nat => s.heap.size ≤ q) b) (hST : ST t0 (fun q => s.heap.size ≤ q) s) {x3 a1 a2 a3 : Int32} (hi1 : vp_in (x3 + 1) L) (hi2 : vp_in (x3 + 2) L) (hi3 : vp_in (x3 + 3) L) (ea1 : a1 = xs (x3 + 1).toNatClampNeg) (ea2 : a2 = xs (x3 + 2).toNatClampNeg) (ea3 : a3 = xs (x3 + 3).toNatClampNeg) {σ τ : Hp} (hR : Rl σ τ) {H : Heap} {locs : List Loc} (hV : LW D cy 55 shX adX 27 shM adM (fun q => s.heap.size ≤ q) s.heap σ τ H locs) {ls : Array Slot} (hl : lv_has ls 4 [(0, .ref b), (1, .ref (adX 0)), (2, .ref (adM 0)), (3, .int x3)]) (next : ∀ (σ1 τ1 : Hp), Rl σ1 τ1 → ∀ (H : Heap) (locs : List Loc), LW D cy 55 shX adX 27 shM adM (fun q => s.heap.size ≤ q) s.heap σ1 τ1 H locs → W p l e room_1 s m #[Value.ref b] below meth c H locs 600000 7302250 (lw_Z below #[Value.ref b] s) (F0 m 986 ls [])) : W p l e room_1 s m #[Value.ref b] below meth c H locs 600000 7302250 (lw_Z below #[Value.ref b] s) (F0 m 917 ls []) := by
  have hx := hC.1.1
  have hb := hC.1.2.1
  have hts := hC.1.2.2.2.2
  refine lv_aload_n hx hb dL_law_917 rfl (lv_at hl 1 rfl) ?_
  refine lv_aload_n hx hb dL_law_918 rfl (lv_at hl 0 rfl) ?_
  refine lv_iload_n hx hb dL_law_919 rfl (lv_at hl 3 rfl) ?_
  refine lv_iconst (v := 1) hx hb dL_law_920 (by decide) ?_
  refine lv_iadd hx hb dL_law_921 ?_
  refine va_sld hx hb hX hbl hbA hV.2.2.2.2.2.1 hi1 dL_law_922 ?_
  rw [← ea1]
  obtain ⟨r, σ1, τ1, e1, e2, hR1⟩ := hk27 σ τ hR a1
  refine law_i (As := [.int a1]) (rest := []) hC hV (fun A1 => c_X6_image l D cy adX A1 N _ _ _ _ e1) (cwV 1 hts (gdV wd_863 wd_705 wd_706 wd_5 wd_704) rfl rfl rfl (by decide +kernel) ⟨Nat.le_of_ble_eq_true rfl, Nat.le_of_ble_eq_true rfl⟩) (Nat.le_of_ble_eq_true rfl) rfl rfl rfl hl.1 (Nat.le_of_ble_eq_true rfl) dL_law_923 ⟨Nat.le_of_ble_eq_true rfl, Nat.le_of_ble_eq_true rfl⟩ (fun H1 locs1 hV1 => ?_)
  replace hV := hV1
  clear hV1
  refine lv_aload_n hx hb dL_law_926 rfl (lv_at hl 2 rfl) ?_
  refine lv_aload_n hx hb dL_law_927 rfl (lv_at hl 0 rfl) ?_
  refine lv_iload_n hx hb dL_law_928 rfl (lv_at hl 3 rfl) ?_
  refine lv_iconst (v := 1) hx hb dL_law_929 (by decide) ?_
  refine lv_iadd hx hb dL_law_930 ?_
  refine va_sld hx hb hX hbl hbA hV.2.2.2.2.2.1 hi1 dL_law_931 ?_
  rw [← ea1]
  refine law_i (As := [.int a1]) (rest := [.int r]) hC hV.swap (fun A1 => c_X7_image l D cy adM A1 N _ _ _ _ e2) (cwV 1 hts (gdV wd_864 wd_795 wd_796 wd_300 wd_794) rfl rfl rfl (by decide +kernel) ⟨Nat.le_of_ble_eq_true rfl, Nat.le_of_ble_eq_true rfl⟩) (Nat.le_of_ble_eq_true rfl) rfl rfl rfl hl.1 (Nat.le_of_ble_eq_true rfl) dL_law_932 ⟨Nat.le_of_ble_eq_true rfl, Nat.le_of_ble_eq_true rfl⟩ (fun H1 locs1 hV1 => ?_)
  replace hV := hV1.swap
  clear hV1
  refine lv_icmp_eq (tgt := 986) hx hb dL_law_935 (by decide) (fun _ => ?_) (fun cz => absurd rfl cz)
  exact next _ _ hR1 _ _ hV
set_option maxHeartbeats 8000000 in
set_option maxRecDepth 100000 in
theorem law_case28 {p : Program} {l : Launch} {e : Env} {s : State} {m : MethodId} {below : List Frame} {meth : Method} {c : Code} {D : va_G} {cy : ClassId × ClassId} {b L t0 : Nat} {xs : Nat → Int32} {adX adM : Nat → Nat} {N : Nat} {Rl : Hp → Hp → Prop} (hk28 : ∀ (σ τ : Hp), Rl σ τ → ∀ (p0 : Int32), ∃ r : Int32, ∃ σ1 : Hp, ∃ τ1 : Hp, t_X6_restore N p0 σ = some (r, σ1) ∧ t_X7_restore N p0 τ = some (r, τ1) ∧ Rl σ1 τ1) (hC : Cx p m c cL_law 4 s #[Value.ref b] wsU RL D cy) (hX : va_X b L xs s s.heap) (hbl : b < s.heap.size) (hbA : ¬ (fun q : Nat => s.heap.size ≤ q) b) (hST : ST t0 (fun q => s.heap.size ≤ q) s) {x3 a1 a2 a3 : Int32} (hi1 : vp_in (x3 + 1) L) (hi2 : vp_in (x3 + 2) L) (hi3 : vp_in (x3 + 3) L) (ea1 : a1 = xs (x3 + 1).toNatClampNeg) (ea2 : a2 = xs (x3 + 2).toNatClampNeg) (ea3 : a3 = xs (x3 + 3).toNatClampNeg) {σ τ : Hp} (hR : Rl σ τ) {H : Heap} {locs : List Loc} (hV : LW D cy 55 shX adX 27 shM adM (fun q => s.heap.size ≤ q) s.heap σ τ H locs) {ls : Array Slot} (hl : lv_has ls 4 [(0, .ref b), (1, .ref (adX 0)), (2, .ref (adM 0)), (3, .int x3)]) (next : ∀ (σ1 τ1 : Hp), Rl σ1 τ1 → ∀ (H : Heap) (locs : List Loc), LW D cy 55 shX adX 27 shM adM (fun q => s.heap.size ≤ q) s.heap σ1 τ1 H locs → W p l e room_1 s m #[Value.ref b] below meth c H locs 600000 7302250 (lw_Z below #[Value.ref b] s) (F0 m 986 ls [])) : W p l e room_1 s m #[Value.ref b] below meth c H locs 600000 7302250 (lw_Z below #[Value.ref b] s) (F0 m 940 ls []) := by
  have hx := hC.1.1
  have hb := hC.1.2.1
  have hts := hC.1.2.2.2.2
  refine lv_aload_n hx hb dL_law_940 rfl (lv_at hl 1 rfl) ?_
  refine lv_aload_n hx hb dL_law_941 rfl (lv_at hl 0 rfl) ?_
  refine lv_iload_n hx hb dL_law_942 rfl (lv_at hl 3 rfl) ?_
  refine lv_iconst (v := 1) hx hb dL_law_943 (by decide) ?_
  refine lv_iadd hx hb dL_law_944 ?_
  refine va_sld hx hb hX hbl hbA hV.2.2.2.2.2.1 hi1 dL_law_945 ?_
  rw [← ea1]
  obtain ⟨r, σ1, τ1, e1, e2, hR1⟩ := hk28 σ τ hR a1
  refine law_i (As := [.int a1]) (rest := []) hC hV (fun A1 => c_X6_restore l D cy adX A1 N _ _ _ _ e1) (cwV 1 hts (gdV wd_865 wd_708 wd_709 wd_5 wd_707) rfl rfl rfl (by decide +kernel) ⟨Nat.le_of_ble_eq_true rfl, Nat.le_of_ble_eq_true rfl⟩) (Nat.le_of_ble_eq_true rfl) rfl rfl rfl hl.1 (Nat.le_of_ble_eq_true rfl) dL_law_946 ⟨Nat.le_of_ble_eq_true rfl, Nat.le_of_ble_eq_true rfl⟩ (fun H1 locs1 hV1 => ?_)
  replace hV := hV1
  clear hV1
  refine lv_aload_n hx hb dL_law_949 rfl (lv_at hl 2 rfl) ?_
  refine lv_aload_n hx hb dL_law_950 rfl (lv_at hl 0 rfl) ?_
  refine lv_iload_n hx hb dL_law_951 rfl (lv_at hl 3 rfl) ?_
  refine lv_iconst (v := 1) hx hb dL_law_952 (by decide) ?_
  refine lv_iadd hx hb dL_law_953 ?_
  refine va_sld hx hb hX hbl hbA hV.2.2.2.2.2.1 hi1 dL_law_954 ?_
  rw [← ea1]
  refine law_i (As := [.int a1]) (rest := [.int r]) hC hV.swap (fun A1 => c_X7_restore l D cy adM A1 N _ _ _ _ e2) (cwV 1 hts (gdV wd_866 wd_798 wd_799 wd_300 wd_797) rfl rfl rfl (by decide +kernel) ⟨Nat.le_of_ble_eq_true rfl, Nat.le_of_ble_eq_true rfl⟩) (Nat.le_of_ble_eq_true rfl) rfl rfl rfl hl.1 (Nat.le_of_ble_eq_true rfl) dL_law_955 ⟨Nat.le_of_ble_eq_true rfl, Nat.le_of_ble_eq_true rfl⟩ (fun H1 locs1 hV1 => ?_)
  replace hV := hV1.swap
  clear hV1
  refine lv_icmp_eq (tgt := 986) hx hb dL_law_958 (by decide) (fun _ => ?_) (fun cz => absurd rfl cz)
  exact next _ _ hR1 _ _ hV
set_option maxHeartbeats 8000000 in
set_option maxRecDepth 100000 in
theorem law_case29 {p : Program} {l : Launch} {e : Env} {s : State} {m : MethodId} {below : List Frame} {meth : Method} {c : Code} {D : va_G} {cy : ClassId × ClassId} {b L t0 : Nat} {xs : Nat → Int32} {adX adM : Nat → Nat} {N : Nat} {Rl : Hp → Hp → Prop} (hk29 : ∀ (σ τ : Hp), Rl σ τ → ∀ (p0 : Int32), ∃ r : Int32, t_X6_told p0 σ = some r ∧ t_X7_told p0 τ = some r ∧ Rl σ τ) (hC : Cx p m c cL_law 4 s #[Value.ref b] wsU RL D cy) (hX : va_X b L xs s s.heap) (hbl : b < s.heap.size) (hbA : ¬ (fun q : Nat => s.heap.size ≤ q) b) (hST : ST t0 (fun q => s.heap.size ≤ q) s) {x3 a1 a2 a3 : Int32} (hi1 : vp_in (x3 + 1) L) (hi2 : vp_in (x3 + 2) L) (hi3 : vp_in (x3 + 3) L) (ea1 : a1 = xs (x3 + 1).toNatClampNeg) (ea2 : a2 = xs (x3 + 2).toNatClampNeg) (ea3 : a3 = xs (x3 + 3).toNatClampNeg) {σ τ : Hp} (hR : Rl σ τ) {H : Heap} {locs : List Loc} (hV : LW D cy 55 shX adX 27 shM adM (fun q => s.heap.size ≤ q) s.heap σ τ H locs) {ls : Array Slot} (hl : lv_has ls 4 [(0, .ref b), (1, .ref (adX 0)), (2, .ref (adM 0)), (3, .int x3)]) (next : ∀ (σ1 τ1 : Hp), Rl σ1 τ1 → ∀ (H : Heap) (locs : List Loc), LW D cy 55 shX adX 27 shM adM (fun q => s.heap.size ≤ q) s.heap σ1 τ1 H locs → W p l e room_1 s m #[Value.ref b] below meth c H locs 600000 7302250 (lw_Z below #[Value.ref b] s) (F0 m 986 ls [])) : W p l e room_1 s m #[Value.ref b] below meth c H locs 600000 7302250 (lw_Z below #[Value.ref b] s) (F0 m 963 ls []) := by
  have hx := hC.1.1
  have hb := hC.1.2.1
  have hts := hC.1.2.2.2.2
  refine lv_aload_n hx hb dL_law_963 rfl (lv_at hl 1 rfl) ?_
  refine lv_aload_n hx hb dL_law_964 rfl (lv_at hl 0 rfl) ?_
  refine lv_iload_n hx hb dL_law_965 rfl (lv_at hl 3 rfl) ?_
  refine lv_iconst (v := 1) hx hb dL_law_966 (by decide) ?_
  refine lv_iadd hx hb dL_law_967 ?_
  refine va_sld hx hb hX hbl hbA hV.2.2.2.2.2.1 hi1 dL_law_968 ?_
  rw [← ea1]
  obtain ⟨r, e1, e2, hR1⟩ := hk29 σ τ hR a1
  refine law_i (As := [.int a1]) (rest := []) hC hV (fun A1 => c_X6_told l D cy adX A1 _ _ _ e1) (cwV 1 hts (gdV wd_867 wd_711 wd_712 wd_5 wd_710) rfl rfl rfl (by decide +kernel) ⟨Nat.le_of_ble_eq_true rfl, Nat.le_of_ble_eq_true rfl⟩) (Nat.le_of_ble_eq_true rfl) rfl rfl rfl hl.1 (Nat.le_of_ble_eq_true rfl) dL_law_969 ⟨Nat.le_of_ble_eq_true rfl, Nat.le_of_ble_eq_true rfl⟩ (fun H1 locs1 hV1 => ?_)
  replace hV := hV1
  clear hV1
  refine lv_aload_n hx hb dL_law_972 rfl (lv_at hl 2 rfl) ?_
  refine lv_aload_n hx hb dL_law_973 rfl (lv_at hl 0 rfl) ?_
  refine lv_iload_n hx hb dL_law_974 rfl (lv_at hl 3 rfl) ?_
  refine lv_iconst (v := 1) hx hb dL_law_975 (by decide) ?_
  refine lv_iadd hx hb dL_law_976 ?_
  refine va_sld hx hb hX hbl hbA hV.2.2.2.2.2.1 hi1 dL_law_977 ?_
  rw [← ea1]
  refine law_i (As := [.int a1]) (rest := [.int r]) hC hV.swap (fun A1 => c_X7_told l D cy adM A1 _ _ _ e2) (cwV 1 hts (gdV wd_868 wd_801 wd_802 wd_300 wd_800) rfl rfl rfl (by decide +kernel) ⟨Nat.le_of_ble_eq_true rfl, Nat.le_of_ble_eq_true rfl⟩) (Nat.le_of_ble_eq_true rfl) rfl rfl rfl hl.1 (Nat.le_of_ble_eq_true rfl) dL_law_978 ⟨Nat.le_of_ble_eq_true rfl, Nat.le_of_ble_eq_true rfl⟩ (fun H1 locs1 hV1 => ?_)
  replace hV := hV1.swap
  clear hV1
  refine lv_icmp_eq (tgt := 986) hx hb dL_law_981 (by decide) (fun _ => ?_) (fun cz => absurd rfl cz)
  exact next _ _ hR1 _ _ hV
