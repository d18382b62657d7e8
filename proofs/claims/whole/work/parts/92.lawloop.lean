theorem law_s (i : Nat) : nI i + 4 = nI (i + 4) := by rw [show (4 : Int32) = nI 4 from rfl, nI_add]
theorem law_out {L i : Nat} {x3 : Int32} (hL : L ≤ 2048) (h : L + 4 ≤ i) (ex : x3 = nI (L + 4)) : Int32.ofNat L - 4 < x3 := by
  subst ex
  rw [Int32.lt_iff_toInt_lt]
  have h1 : (nI (L + 4)).toInt = ((L + 4 : Nat) : Int) := nI_toInt (by omega)
  have h2 : (Int32.ofNat L - 4).toInt = (L : Int) - 4 := by
    rw [show (4 : Int32) = nI 4 from rfl]
    exact pk_sub_toInt (a := L) (b := 4) (by omega) (by omega)
  omega
theorem law_in {L i : Nat} {x3 : Int32} (hL : L ≤ 2048) (h : i ≤ L + 4) (ex : x3 = nI i) (hq : ¬ Int32.ofNat L - 4 < x3) : i + 4 ≤ L := by
  subst ex
  rw [Int32.lt_iff_toInt_lt] at hq
  have h1 : (nI i).toInt = (i : Int) := nI_toInt (by omega)
  have h2 : (Int32.ofNat L - 4).toInt = (L : Int) - 4 := by
    rw [show (4 : Int32) = nI 4 from rfl]
    exact pk_sub_toInt (a := L) (b := 4) (by omega) (by omega)
  omega
theorem law_ix {L i : Nat} {x3 : Int32} (hL : L ≤ 2048) (h : i + 4 ≤ L) (ex : x3 = nI i) (j : Nat) (hj : j < 4) : vp_in (x3 + nI j) L := by
  subst ex
  rw [nI_add]
  exact vp_in_nI (by omega) (by omega)
theorem law_ix0 {L i : Nat} {x3 : Int32} (hL : L ≤ 2048) (h : i + 4 ≤ L) (ex : x3 = nI i) : vp_in x3 L := by
  subst ex
  exact vp_in_nI (by omega) (by omega)
set_option maxHeartbeats 8000000 in
set_option maxRecDepth 100000 in
theorem law_loop {p : Program} {l : Launch} {e : Env} {s : State} {m : MethodId} {below : List Frame} {meth : Method} {c : Code} {D : va_G} {cy : ClassId × ClassId} {b L t0 : Nat} {xs : Nat → Int32} {adX adM : Nat → Nat} (N : Nat) (Rl : Hp → Hp → Prop) (hk0 : ∀ (σ τ : Hp), Rl σ τ → ∀ (p0 : Int32), ∃ r : Int32, ∃ σ1 : Hp, ∃ τ1 : Hp, t_X6_eggs N p0 σ = some (r, σ1) ∧ t_X7_eggs N p0 τ = some (r, τ1) ∧ Rl σ1 τ1) (hk1 : ∀ (σ τ : Hp), Rl σ τ → ∀ (p0 : Int32) (p1 : Int32) (p2 : Int32), ∃ r : Int32, ∃ σ1 : Hp, ∃ τ1 : Hp, t_X6_egg p0 p1 p2 σ = some (r, σ1) ∧ t_X7_egg p0 p1 p2 τ = some (r, τ1) ∧ Rl σ1 τ1) (hk2 : ∀ (σ τ : Hp), Rl σ τ → ∀ (p0 p1 : Int32), (p1 = 0 ∨ p1 = 1) → ∃ r : Int32, ∃ σ1 : Hp, ∃ τ1 : Hp, t_X6_stove p0 p1 σ = some (r, σ1) ∧ t_X7_stove p0 p1 τ = some (r, τ1) ∧ Rl σ1 τ1) (hk3 : ∀ (σ τ : Hp), Rl σ τ → ∀ (p0 : Int32), ∃ r : Int32, ∃ σ1 : Hp, ∃ τ1 : Hp, t_X6_say p0 σ = some (r, σ1) ∧ t_X7_say p0 τ = some (r, τ1) ∧ Rl σ1 τ1) (hk4 : ∀ (σ τ : Hp), Rl σ τ → ∃ r : Int32, ∃ σ1 : Hp, ∃ τ1 : Hp, t_X6_wipe σ = some (r, σ1) ∧ t_X7_wipe τ = some (r, τ1) ∧ Rl σ1 τ1) (hk5 : ∀ (σ τ : Hp), Rl σ τ → ∀ (p0 : Int32), ∃ r : Int32, ∃ τ1 : Hp, t_X6_fault N p0 σ = some r ∧ t_X7_fault N p0 τ = some (r, τ1) ∧ Rl σ τ1) (hk6 : ∀ (σ τ : Hp), Rl σ τ → ∃ r : Int32, ∃ σ1 : Hp, ∃ τ1 : Hp, t_X6_order N σ = some (r, σ1) ∧ t_X7_order N τ = some (r, τ1) ∧ Rl σ1 τ1) (hk7 : ∀ (σ τ : Hp), Rl σ τ → ∀ (p0 : Int32), ∃ r : Int32, ∃ σ1 : Hp, ∃ τ1 : Hp, t_X6_judge N p0 σ = some (r, σ1) ∧ t_X7_judge N p0 τ = some (r, τ1) ∧ Rl σ1 τ1) (hk8 : ∀ (σ τ : Hp), Rl σ τ → ∀ (p0 : Int32) (p1 : Int32), ∃ r : Int32, ∃ σ1 : Hp, ∃ τ1 : Hp, t_X6_behind N p0 p1 σ = some (r, σ1) ∧ t_X7_behind N p0 p1 τ = some (r, τ1) ∧ Rl σ1 τ1) (hk9 : ∀ (σ τ : Hp), Rl σ τ → ∀ (p0 : Int32), ∃ r : Int32, ∃ σ1 : Hp, ∃ τ1 : Hp, t_X6_hatched N p0 σ = some (r, σ1) ∧ t_X7_hatched N p0 τ = some (r, τ1) ∧ Rl σ1 τ1) (hk10 : ∀ (σ τ : Hp), Rl σ τ → ∀ (p0 : Int32), ∃ r : Int32, ∃ σ1 : Hp, ∃ τ1 : Hp, t_X6_stops N p0 σ = some (r, σ1) ∧ t_X7_stops N p0 τ = some (r, τ1) ∧ Rl σ1 τ1) (hk11 : ∀ (σ τ : Hp), Rl σ τ → ∃ r : Int32, ∃ σ1 : Hp, ∃ τ1 : Hp, t_X6_done N σ = some (r, σ1) ∧ t_X7_done N τ = some (r, τ1) ∧ Rl σ1 τ1) (hk12 : ∀ (σ τ : Hp), Rl σ τ → ∀ (p0 : Int32) (p1 : Int32), ∃ r : Int32, t_X6_state p0 p1 σ = some r ∧ t_X7_state p0 p1 τ = some r ∧ Rl σ τ) (hk13 : ∀ (σ τ : Hp), Rl σ τ → ∀ (p0 : Int32) (p1 : Int32) (p2 : Int32), ∃ r : Int32, ∃ σ1 : Hp, ∃ τ1 : Hp, t_X6_clue p0 p1 p2 σ = some (r, σ1) ∧ t_X7_clue p0 p1 p2 τ = some (r, τ1) ∧ Rl σ1 τ1) (hk14 : ∀ (σ τ : Hp), Rl σ τ → ∀ (p0 : Int32) (p1 : Int32), ∃ r : Int32, ∃ σ1 : Hp, ∃ τ1 : Hp, t_X6_seen p0 p1 σ = some (r, σ1) ∧ t_X7_seen p0 p1 τ = some (r, τ1) ∧ Rl σ1 τ1) (hk15 : ∀ (σ τ : Hp), Rl σ τ → ∀ (p0 : Int32), ∃ r : Int32, ∃ σ1 : Hp, ∃ τ1 : Hp, t_X6_forget p0 σ = some (r, σ1) ∧ t_X7_forget p0 τ = some (r, τ1) ∧ Rl σ1 τ1) (hk16 : ∀ (σ τ : Hp), Rl σ τ → ∀ (p0 : Int32), ∃ r : Int32, ∃ σ1 : Hp, ∃ τ1 : Hp, t_X6_fits N p0 σ = some (r, σ1) ∧ t_X7_fits N p0 τ = some (r, τ1) ∧ Rl σ1 τ1) (hk17 : ∀ (σ τ : Hp), Rl σ τ → ∀ (p0 : Int32), ∃ r : Int32, ∃ σ1 : Hp, ∃ τ1 : Hp, t_X6_places N p0 σ = some (r, σ1) ∧ t_X7_places N p0 τ = some (r, τ1) ∧ Rl σ1 τ1) (hk18 : ∀ (σ τ : Hp), Rl σ τ → ∃ r : Int32, ∃ σ1 : Hp, ∃ τ1 : Hp, t_X6_firsts N σ = some (r, σ1) ∧ t_X7_firsts N τ = some (r, τ1) ∧ Rl σ1 τ1) (hk19 : ∀ (σ τ : Hp), Rl σ τ → ∀ (p0 : Int32) (p1 : Int32), ∃ r : Int32, ∃ σ1 : Hp, ∃ τ1 : Hp, t_X6_certain N p0 p1 σ = some (r, σ1) ∧ t_X7_certain N p0 p1 τ = some (r, τ1) ∧ Rl σ1 τ1) (hk20 : ∀ (σ τ : Hp), Rl σ τ → ∀ (p0 : Int32), ∃ r : Int32, ∃ σ1 : Hp, ∃ τ1 : Hp, t_X6_ask N p0 σ = some (r, σ1) ∧ t_X7_ask N p0 τ = some (r, τ1) ∧ Rl σ1 τ1) (hk21 : ∀ (σ τ : Hp), Rl σ τ → ∀ (p0 : Int32), ∃ r : Int32, t_X6_mend N p0 σ = some r ∧ t_X7_mend N p0 τ = some r ∧ Rl σ τ) (hk22 : ∀ (σ τ : Hp), Rl σ τ → ∀ (p0 : Int32), ∃ r : Int32, t_X6_soonest N p0 σ = some r ∧ t_X7_soonest N p0 τ = some r ∧ Rl σ τ) (hk23 : ∀ (σ τ : Hp), Rl σ τ → ∀ (p0 : Int32) (p1 : Int32), ∃ r : Int32, ∃ τ1 : Hp, t_X6_rests N p0 p1 σ = some r ∧ t_X7_rests N p0 p1 τ = some (r, τ1) ∧ Rl σ τ1) (hk24 : ∀ (σ τ : Hp), Rl σ τ → ∀ (p0 : Int32) (p1 : Int32), ∃ r : Int64, ∃ τ1 : Hp, t_X6_shapley N p0 p1 σ = some r ∧ t_X7_shapley N p0 p1 τ = some (r, τ1) ∧ Rl σ τ1) (hk25 : ∀ (σ τ : Hp), Rl σ τ → ∀ (p0 : Int32) (p1 : Int32) (p2 : Int32), ∃ r : Int64, t_X6_hope N p0 p1 p2 σ = some r ∧ t_X7_hope N p0 p1 p2 τ = some r ∧ Rl σ τ) (hk26 : ∀ (σ τ : Hp), Rl σ τ → ∀ (p0 : Int32) (p1 : Int32) (p2 : Int32), ∃ r : Int32, ∃ σ1 : Hp, ∃ τ1 : Hp, t_X6_year N p0 p1 p2 σ = some (r, σ1) ∧ t_X7_year N p0 p1 p2 τ = some (r, τ1) ∧ Rl σ1 τ1) (hk27 : ∀ (σ τ : Hp), Rl σ τ → ∀ (p0 : Int32), ∃ r : Int32, ∃ σ1 : Hp, ∃ τ1 : Hp, t_X6_image N p0 σ = some (r, σ1) ∧ t_X7_image N p0 τ = some (r, τ1) ∧ Rl σ1 τ1) (hk28 : ∀ (σ τ : Hp), Rl σ τ → ∀ (p0 : Int32), ∃ r : Int32, ∃ σ1 : Hp, ∃ τ1 : Hp, t_X6_restore N p0 σ = some (r, σ1) ∧ t_X7_restore N p0 τ = some (r, τ1) ∧ Rl σ1 τ1) (hk29 : ∀ (σ τ : Hp), Rl σ τ → ∀ (p0 : Int32), ∃ r : Int32, t_X6_told p0 σ = some r ∧ t_X7_told p0 τ = some r ∧ Rl σ τ) (hL : L ≤ 2048) (hr : meth.sig.returnType = ret) (hlocks : meth.locks = false) (hC : Cx p m c cL_law 4 s #[Value.ref b] wsU RL D cy) (hX : va_X b L xs s s.heap) (hbl : b < s.heap.size) (hST : ST t0 (fun q => s.heap.size ≤ q) s) :
    ∀ (n i : Nat), L + 4 ≤ i + n → i ≤ L + 4 → ∀ (x3 : Int32), x3 = nI i → ∀ (σ τ : Hp), Rl σ τ → ∀ (H : Heap) (locs : List Loc), LW D cy 55 shX adX 27 shM adM (fun q => s.heap.size ≤ q) s.heap σ τ H locs → ∀ ls : Array Slot, lv_has ls 4 [(0, .ref b), (1, .ref (adX 0)), (2, .ref (adM 0)), (3, .int x3)] → W p l e room_1 s m #[Value.ref b] below meth c H locs 600000 7302250 (lw_Z below #[Value.ref b] s) (F0 m 18 ls []) := by
  have hx := hC.1.1
  have hb := hC.1.2.1
  have hts := hC.1.2.2.2.2
  have hbA : ¬ (fun q : Nat => s.heap.size ≤ q) b := Nat.not_le.mpr hbl
  intro n
  induction n with
  | zero =>
    intro i h1 h2 x3 ex σ τ hR H locs hV ls hl
    obtain rfl : i = L + 4 := by omega
    refine lv_iload_n hx hb dL_law_18 rfl (lv_at hl 3 rfl) ?_
    refine lv_aload_n hx hb dL_law_19 rfl (lv_at hl 0 rfl) ?_
    refine va_slen hx hb hX hbl hbA hV.2.2.2.2.2.1 dL_law_20 ?_
    refine lv_iconst (v := 4) hx hb dL_law_21 (by decide) ?_
    refine lv_isub hx hb dL_law_22 ?_
    refine lv_icmp_gt (tgt := 992) hx hb dL_law_23 (by decide) (fun _ => ?_) (fun cq => ?_)
    · refine lv_iconst (v := 1) hx hb dL_law_992 (by decide) ?_
      refine va_forget (fun q hq => hV.2.2.2.2.2.1.2.2 q hq) ?_
      exact lw_ret hx hb hr hlocks dL_law_993
    · exact absurd (law_out hL (Nat.le_refl _) ex) cq
  | succ n ih =>
    intro i h1 h2 x3 ex σ τ hR H locs hV ls hl
    refine lv_iload_n hx hb dL_law_18 rfl (lv_at hl 3 rfl) ?_
    refine lv_aload_n hx hb dL_law_19 rfl (lv_at hl 0 rfl) ?_
    refine va_slen hx hb hX hbl hbA hV.2.2.2.2.2.1 dL_law_20 ?_
    refine lv_iconst (v := 4) hx hb dL_law_21 (by decide) ?_
    refine lv_isub hx hb dL_law_22 ?_
    refine lv_icmp_gt (tgt := 992) hx hb dL_law_23 (by decide) (fun _ => ?_) (fun cq => ?_)
    · refine lv_iconst (v := 1) hx hb dL_law_992 (by decide) ?_
      refine va_forget (fun q hq => hV.2.2.2.2.2.1.2.2 q hq) ?_
      exact lw_ret hx hb hr hlocks dL_law_993
    · have hi4 := law_in hL h2 ex cq
      have hi0 : vp_in x3 L := law_ix0 hL hi4 ex
      have hi1 : vp_in (x3 + 1) L := law_ix hL hi4 ex 1 (by decide)
      have hi2 : vp_in (x3 + 2) L := law_ix hL hi4 ex 2 (by decide)
      have hi3 : vp_in (x3 + 3) L := law_ix hL hi4 ex 3 (by decide)
      have next : ∀ (σ1 τ1 : Hp), Rl σ1 τ1 → ∀ (H : Heap) (locs : List Loc), LW D cy 55 shX adX 27 shM adM (fun q => s.heap.size ≤ q) s.heap σ1 τ1 H locs → W p l e room_1 s m #[Value.ref b] below meth c H locs 600000 7302250 (lw_Z below #[Value.ref b] s) (F0 m 986 ls []) := by
        intro σ1 τ1 hR H locs hV
        obtain ⟨x4, ex4⟩ : ∃ z, z = x3 + 4 := ⟨_, rfl⟩
        refine lv_iinc (v := x4) (lv' := [(3, .int x4), (0, .ref b), (1, .ref (adX 0)), (2, .ref (adM 0))]) hx hb dL_law_986 hl (k := 3) rfl (by rw [ex4]; rfl) (by decide) rfl (fun ls hl => ?_)
        refine lv_goto (tgt := 18) hx hb dL_law_989 (by decide) ?_
        exact ih (i + 4) (by omega) (by omega) x4 (by rw [ex4, ex]; exact law_s i) σ1 τ1 hR H locs hV ls (lv_sub hl [1, 2, 3, 0] rfl)
      refine lv_aload_n hx hb dL_law_26 rfl (lv_at hl 0 rfl) ?_
      refine lv_iload_n hx hb dL_law_27 rfl (lv_at hl 3 rfl) ?_
      refine va_sld hx hb hX hbl hbA hV.2.2.2.2.2.1 hi0 dL_law_28 ?_
      refine lv_bipush (v := 31) hx hb dL_law_29 (by decide) ?_
      refine lv_iand hx hb dL_law_31 ?_
      obtain ⟨sel, esel⟩ : ∃ z, z = (xs x3.toNatClampNeg) &&& 31 := ⟨_, rfl⟩
      refine tope esel ?_
      clear esel
      obtain ⟨a1, ea1⟩ : ∃ z, z = xs (x3 + 1).toNatClampNeg := ⟨_, rfl⟩
      obtain ⟨a2, ea2⟩ : ∃ z, z = xs (x3 + 2).toNatClampNeg := ⟨_, rfl⟩
      obtain ⟨a3, ea3⟩ : ∃ z, z = xs (x3 + 3).toNatClampNeg := ⟨_, rfl⟩
      by_cases cq0 : sel = 0
      · subst cq0
        refine lv_tableIn (off := 136) (tgt := 168) hx hb dL_law_32 (by decide) (by decide) (by rfl) (by decide) ?_
        exact law_case0 (N := N) hk0 hC hX hbl hbA hST hi1 hi2 hi3 ea1 ea2 ea3 hR hV hl next
      by_cases cq1 : sel = 1
      · subst cq1
        refine lv_tableIn (off := 159) (tgt := 191) hx hb dL_law_32 (by decide) (by decide) (by rfl) (by decide) ?_
        exact law_case1 (N := N) hk1 hC hX hbl hbA hST hi1 hi2 hi3 ea1 ea2 ea3 hR hV hl next
      by_cases cq2 : sel = 2
      · subst cq2
        refine lv_tableIn (off := 202) (tgt := 234) hx hb dL_law_32 (by decide) (by decide) (by rfl) (by decide) ?_
        exact law_case2 (N := N) hk2 hC hX hbl hbA hST hi1 hi2 hi3 ea1 ea2 ea3 hR hV hl next
      by_cases cq3 : sel = 3
      · subst cq3
        refine lv_tableIn (off := 251) (tgt := 283) hx hb dL_law_32 (by decide) (by decide) (by rfl) (by decide) ?_
        exact law_case3 (N := N) hk3 hC hX hbl hbA hST hi1 hi2 hi3 ea1 ea2 ea3 hR hV hl next
      by_cases cq4 : sel = 4
      · subst cq4
        refine lv_tableIn (off := 274) (tgt := 306) hx hb dL_law_32 (by decide) (by decide) (by rfl) (by decide) ?_
        exact law_case4 (N := N) hk4 hC hX hbl hbA hST hi1 hi2 hi3 ea1 ea2 ea3 hR hV hl next
      by_cases cq5 : sel = 5
      · subst cq5
        refine lv_tableIn (off := 287) (tgt := 319) hx hb dL_law_32 (by decide) (by decide) (by rfl) (by decide) ?_
        exact law_case5 (N := N) hk5 hC hX hbl hbA hST hi1 hi2 hi3 ea1 ea2 ea3 hR hV hl next
      by_cases cq6 : sel = 6
      · subst cq6
        refine lv_tableIn (off := 310) (tgt := 342) hx hb dL_law_32 (by decide) (by decide) (by rfl) (by decide) ?_
        exact law_case6 (N := N) hk6 hC hX hbl hbA hST hi1 hi2 hi3 ea1 ea2 ea3 hR hV hl next
      by_cases cq7 : sel = 7
      · subst cq7
        refine lv_tableIn (off := 323) (tgt := 355) hx hb dL_law_32 (by decide) (by decide) (by rfl) (by decide) ?_
        exact law_case7 (N := N) hk7 hC hX hbl hbA hST hi1 hi2 hi3 ea1 ea2 ea3 hR hV hl next
      by_cases cq8 : sel = 8
      · subst cq8
        refine lv_tableIn (off := 346) (tgt := 378) hx hb dL_law_32 (by decide) (by decide) (by rfl) (by decide) ?_
        exact law_case8 (N := N) hk8 hC hX hbl hbA hST hi1 hi2 hi3 ea1 ea2 ea3 hR hV hl next
      by_cases cq9 : sel = 9
      · subst cq9
        refine lv_tableIn (off := 379) (tgt := 411) hx hb dL_law_32 (by decide) (by decide) (by rfl) (by decide) ?_
        exact law_case9 (N := N) hk9 hC hX hbl hbA hST hi1 hi2 hi3 ea1 ea2 ea3 hR hV hl next
      by_cases cq10 : sel = 10
      · subst cq10
        refine lv_tableIn (off := 402) (tgt := 434) hx hb dL_law_32 (by decide) (by decide) (by rfl) (by decide) ?_
        exact law_case10 (N := N) hk10 hC hX hbl hbA hST hi1 hi2 hi3 ea1 ea2 ea3 hR hV hl next
      by_cases cq11 : sel = 11
      · subst cq11
        refine lv_tableIn (off := 425) (tgt := 457) hx hb dL_law_32 (by decide) (by decide) (by rfl) (by decide) ?_
        exact law_case11 (N := N) hk11 hC hX hbl hbA hST hi1 hi2 hi3 ea1 ea2 ea3 hR hV hl next
      by_cases cq12 : sel = 12
      · subst cq12
        refine lv_tableIn (off := 438) (tgt := 470) hx hb dL_law_32 (by decide) (by decide) (by rfl) (by decide) ?_
        exact law_case12 (N := N) hk12 hC hX hbl hbA hST hi1 hi2 hi3 ea1 ea2 ea3 hR hV hl next
      by_cases cq13 : sel = 13
      · subst cq13
        refine lv_tableIn (off := 471) (tgt := 503) hx hb dL_law_32 (by decide) (by decide) (by rfl) (by decide) ?_
        exact law_case13 (N := N) hk13 hC hX hbl hbA hST hi1 hi2 hi3 ea1 ea2 ea3 hR hV hl next
      by_cases cq14 : sel = 14
      · subst cq14
        refine lv_tableIn (off := 514) (tgt := 546) hx hb dL_law_32 (by decide) (by decide) (by rfl) (by decide) ?_
        exact law_case14 (N := N) hk14 hC hX hbl hbA hST hi1 hi2 hi3 ea1 ea2 ea3 hR hV hl next
      by_cases cq15 : sel = 15
      · subst cq15
        refine lv_tableIn (off := 547) (tgt := 579) hx hb dL_law_32 (by decide) (by decide) (by rfl) (by decide) ?_
        exact law_case15 (N := N) hk15 hC hX hbl hbA hST hi1 hi2 hi3 ea1 ea2 ea3 hR hV hl next
      by_cases cq16 : sel = 16
      · subst cq16
        refine lv_tableIn (off := 570) (tgt := 602) hx hb dL_law_32 (by decide) (by decide) (by rfl) (by decide) ?_
        exact law_case16 (N := N) hk16 hC hX hbl hbA hST hi1 hi2 hi3 ea1 ea2 ea3 hR hV hl next
      by_cases cq17 : sel = 17
      · subst cq17
        refine lv_tableIn (off := 593) (tgt := 625) hx hb dL_law_32 (by decide) (by decide) (by rfl) (by decide) ?_
        exact law_case17 (N := N) hk17 hC hX hbl hbA hST hi1 hi2 hi3 ea1 ea2 ea3 hR hV hl next
      by_cases cq18 : sel = 18
      · subst cq18
        refine lv_tableIn (off := 616) (tgt := 648) hx hb dL_law_32 (by decide) (by decide) (by rfl) (by decide) ?_
        exact law_case18 (N := N) hk18 hC hX hbl hbA hST hi1 hi2 hi3 ea1 ea2 ea3 hR hV hl next
      by_cases cq19 : sel = 19
      · subst cq19
        refine lv_tableIn (off := 629) (tgt := 661) hx hb dL_law_32 (by decide) (by decide) (by rfl) (by decide) ?_
        exact law_case19 (N := N) hk19 hC hX hbl hbA hST hi1 hi2 hi3 ea1 ea2 ea3 hR hV hl next
      by_cases cq20 : sel = 20
      · subst cq20
        refine lv_tableIn (off := 662) (tgt := 694) hx hb dL_law_32 (by decide) (by decide) (by rfl) (by decide) ?_
        exact law_case20 (N := N) hk20 hC hX hbl hbA hST hi1 hi2 hi3 ea1 ea2 ea3 hR hV hl next
      by_cases cq21 : sel = 21
      · subst cq21
        refine lv_tableIn (off := 685) (tgt := 717) hx hb dL_law_32 (by decide) (by decide) (by rfl) (by decide) ?_
        exact law_case21 (N := N) hk21 hC hX hbl hbA hST hi1 hi2 hi3 ea1 ea2 ea3 hR hV hl next
      by_cases cq22 : sel = 22
      · subst cq22
        refine lv_tableIn (off := 708) (tgt := 740) hx hb dL_law_32 (by decide) (by decide) (by rfl) (by decide) ?_
        exact law_case22 (N := N) hk22 hC hX hbl hbA hST hi1 hi2 hi3 ea1 ea2 ea3 hR hV hl next
      by_cases cq23 : sel = 23
      · subst cq23
        refine lv_tableIn (off := 731) (tgt := 763) hx hb dL_law_32 (by decide) (by decide) (by rfl) (by decide) ?_
        exact law_case23 (N := N) hk23 hC hX hbl hbA hST hi1 hi2 hi3 ea1 ea2 ea3 hR hV hl next
      by_cases cq24 : sel = 24
      · subst cq24
        refine lv_tableIn (off := 764) (tgt := 796) hx hb dL_law_32 (by decide) (by decide) (by rfl) (by decide) ?_
        exact law_case24 (N := N) hk24 hC hX hbl hbA hST hi1 hi2 hi3 ea1 ea2 ea3 hR hV hl next
      by_cases cq25 : sel = 25
      · subst cq25
        refine lv_tableIn (off := 798) (tgt := 830) hx hb dL_law_32 (by decide) (by decide) (by rfl) (by decide) ?_
        exact law_case25 (N := N) hk25 hC hX hbl hbA hST hi1 hi2 hi3 ea1 ea2 ea3 hR hV hl next
      by_cases cq26 : sel = 26
      · subst cq26
        refine lv_tableIn (off := 842) (tgt := 874) hx hb dL_law_32 (by decide) (by decide) (by rfl) (by decide) ?_
        exact law_case26 (N := N) hk26 hC hX hbl hbA hST hi1 hi2 hi3 ea1 ea2 ea3 hR hV hl next
      by_cases cq27 : sel = 27
      · subst cq27
        refine lv_tableIn (off := 885) (tgt := 917) hx hb dL_law_32 (by decide) (by decide) (by rfl) (by decide) ?_
        exact law_case27 (N := N) hk27 hC hX hbl hbA hST hi1 hi2 hi3 ea1 ea2 ea3 hR hV hl next
      by_cases cq28 : sel = 28
      · subst cq28
        refine lv_tableIn (off := 908) (tgt := 940) hx hb dL_law_32 (by decide) (by decide) (by rfl) (by decide) ?_
        exact law_case28 (N := N) hk28 hC hX hbl hbA hST hi1 hi2 hi3 ea1 ea2 ea3 hR hV hl next
      by_cases cq29 : sel = 29
      · subst cq29
        refine lv_tableIn (off := 931) (tgt := 963) hx hb dL_law_32 (by decide) (by decide) (by rfl) (by decide) ?_
        exact law_case29 (N := N) hk29 hC hX hbl hbA hST hi1 hi2 hi3 ea1 ea2 ea3 hR hV hl next
      refine lv_tableOut (tgt := 986) hx hb dL_law_32 (by have z0 := ti_ne cq0; rw [show ((0 : Int32)).toInt = 0 from rfl] at z0; have z1 := ti_ne cq1; rw [show ((1 : Int32)).toInt = 1 from rfl] at z1; have z2 := ti_ne cq2; rw [show ((2 : Int32)).toInt = 2 from rfl] at z2; have z3 := ti_ne cq3; rw [show ((3 : Int32)).toInt = 3 from rfl] at z3; have z4 := ti_ne cq4; rw [show ((4 : Int32)).toInt = 4 from rfl] at z4; have z5 := ti_ne cq5; rw [show ((5 : Int32)).toInt = 5 from rfl] at z5; have z6 := ti_ne cq6; rw [show ((6 : Int32)).toInt = 6 from rfl] at z6; have z7 := ti_ne cq7; rw [show ((7 : Int32)).toInt = 7 from rfl] at z7; have z8 := ti_ne cq8; rw [show ((8 : Int32)).toInt = 8 from rfl] at z8; have z9 := ti_ne cq9; rw [show ((9 : Int32)).toInt = 9 from rfl] at z9; have z10 := ti_ne cq10; rw [show ((10 : Int32)).toInt = 10 from rfl] at z10; have z11 := ti_ne cq11; rw [show ((11 : Int32)).toInt = 11 from rfl] at z11; have z12 := ti_ne cq12; rw [show ((12 : Int32)).toInt = 12 from rfl] at z12; have z13 := ti_ne cq13; rw [show ((13 : Int32)).toInt = 13 from rfl] at z13; have z14 := ti_ne cq14; rw [show ((14 : Int32)).toInt = 14 from rfl] at z14; have z15 := ti_ne cq15; rw [show ((15 : Int32)).toInt = 15 from rfl] at z15; have z16 := ti_ne cq16; rw [show ((16 : Int32)).toInt = 16 from rfl] at z16; have z17 := ti_ne cq17; rw [show ((17 : Int32)).toInt = 17 from rfl] at z17; have z18 := ti_ne cq18; rw [show ((18 : Int32)).toInt = 18 from rfl] at z18; have z19 := ti_ne cq19; rw [show ((19 : Int32)).toInt = 19 from rfl] at z19; have z20 := ti_ne cq20; rw [show ((20 : Int32)).toInt = 20 from rfl] at z20; have z21 := ti_ne cq21; rw [show ((21 : Int32)).toInt = 21 from rfl] at z21; have z22 := ti_ne cq22; rw [show ((22 : Int32)).toInt = 22 from rfl] at z22; have z23 := ti_ne cq23; rw [show ((23 : Int32)).toInt = 23 from rfl] at z23; have z24 := ti_ne cq24; rw [show ((24 : Int32)).toInt = 24 from rfl] at z24; have z25 := ti_ne cq25; rw [show ((25 : Int32)).toInt = 25 from rfl] at z25; have z26 := ti_ne cq26; rw [show ((26 : Int32)).toInt = 26 from rfl] at z26; have z27 := ti_ne cq27; rw [show ((27 : Int32)).toInt = 27 from rfl] at z27; have z28 := ti_ne cq28; rw [show ((28 : Int32)).toInt = 28 from rfl] at z28; have z29 := ti_ne cq29; rw [show ((29 : Int32)).toInt = 29 from rfl] at z29; omega) (by decide) ?_
      exact next σ τ hR H locs hV
