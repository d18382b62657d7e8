def R_law : String := "EggOrderLaw"
def lw_P (b : Addr) (xs : List Int32) (args : Array Value) (s : State) : Prop := args = #[.ref b] ∧ s.IntsAt b xs ∧ xs.length ≤ 2048 ∧ (Jvm.Cond.and given_1 narrow_1).before args s = true
def lw_Q (_ : Array Value) (s : State) (o : Outcome) (t : State) : Prop := o = .returned (some (.int 1)) ∧ Framed s o t [] 600000 7302250
def lw_Z (below : List Frame) (a : Array Value) (s : State) : State → Prop := fun t => ∃ o, t.status = .running ∧ Ended t below o ∧ lw_Q a s o t
/-- the law's own end, with 1 on the stack, nothing written that was there before, its room as the claim has it -/
theorem lw_ret {p : Program} {l : Launch} {e : Env} {s : State} {m : MethodId} {below : List Frame} {meth : Method} {c : Code} {b : Nat} (hx : p.tables.exec = Jvm.exec) (hb : c.code = code) (hr : meth.sig.returnType = ret) (hlocks : meth.locks = false) {pc : Nat} {H : Heap} {ls : Array Slot} (hdg : decode code pc = .ok (.ireturn, 1)) : W p l e room_1 s m #[Value.ref b] below meth c H [] 600000 7302250 (lw_Z below #[Value.ref b] s) (F0 m pc ls [.int 1]) := by
  intro T hT X
  obtain ⟨fs, hret, hrun, hended, hW, hframe⟩ := X.leave (v := some (.int 1)) (hlocks := hlocks) (fun h => by rw [hr] at h; cases h)
  have hmeth' : T.vm.method? m = some meth := X.method'
  refine ⟨T.setFrames fs, ?_, .returned (some (.int 1)), hrun, hended, rfl, ⟨_, rfl⟩, hW, hframe⟩
  jvm_step X.here [X.here.top, hx, hb, hdg, hmeth', hr, ret, narrow_b1]
  (try refine ⟨rfl, ?_⟩); (try refine ⟨rfl, ?_⟩)
  first | (intro acts; rw [hret _ acts rfl rfl rfl]) | rw [hret _ _ rfl rfl rfl]
  exact Steps.refl _
/-- what holds at the law's entry: the machine, the code, the tables' words (any of lw_tbl by 'hts w (by decide +kernel)'), the script of L ints xs at the cell b, what the Statement gives of the start (any of its parts by flat_of_before) -/
def lw_At (p : Program) (s : State) (m : MethodId) (meth : Method) (c : Code) (b L : Nat) (xs : Nat → Int32) : Prop :=
  p.tables.exec = Jvm.exec ∧ c.code = code ∧ meth.sig.returnType = ret ∧ c.maxLocals = 4 ∧ s.vm.findClass R_law = some m.cls ∧ (∀ w ∈ lw_tbl, w.before #[Value.ref b] s = true) ∧ va_X b L xs s s.heap ∧ b < s.heap.size ∧ meth.locks = false ∧ (Jvm.Cond.and given_1 narrow_1).before #[Value.ref b] s = true

theorem wl_inv {n : Nat} {sh : Nat → Sh} {ad : Nat → Nat} {cy : ClassId × ClassId} {σ : Hp} {k : Nat} {q : Nat × va_E} (h : (wl n sh ad cy σ)[k]? = some q) : k < n ∧ q.1 = ad k := by
  have hk : k < n := by
    have := (List.getElem?_eq_some_iff.mp h).1
    simpa [wl] using this
  rw [wl_at hk] at h
  cases h
  exact ⟨hk, rfl⟩
theorem wl_D {n : Nat} {sh : Nat → Sh} {ad : Nat → Nat} {cy : ClassId × ClassId} {σ σ' : Hp} {A A' : Nat → Prop} (h : va_D A (wl n sh ad cy σ)) (hA : ∀ k, k < n → A' (ad k)) : va_D A' (wl n sh ad cy σ') := by
  refine ⟨fun i j p q hi hj hpq => ?_, fun k q hk => ?_⟩
  · obtain ⟨i1, i2⟩ := wl_inv hi
    obtain ⟨j1, j2⟩ := wl_inv hj
    exact h.1 i j _ _ (wl_at i1) (wl_at j1) (i2.symm.trans (hpq.trans j2))
  · obtain ⟨i1, i2⟩ := wl_inv hk
    rw [i2]; exact hA k i1
theorem wl_A {n : Nat} {sh : Nat → Sh} {ad : Nat → Nat} {cy : ClassId × ClassId} {σ : Hp} {A : Nat → Prop} (h : va_D A (wl n sh ad cy σ)) {k : Nat} (hk : k < n) : A (ad k) := h.2 k _ (wl_at hk)
def AX (n : Nat) (ad : Nat → Nat) (H : Heap) : Nat → Prop := fun q => (∃ i, i < n ∧ q = ad i) ∨ H.size ≤ q
def LW (D : va_G) (cy : ClassId × ClassId) (n1 : Nat) (sh1 : Nat → Sh) (ad1 : Nat → Nat) (n2 : Nat) (sh2 : Nat → Sh) (ad2 : Nat → Nat) (A : Nat → Prop) (H0 : Heap) (σ τ : Hp) (H : Heap) (locs : List Loc) : Prop :=
  va_P D vwCl (wl n1 sh1 ad1 cy σ) H ∧ va_P D vwCl (wl n2 sh2 ad2 cy τ) H ∧ va_D A (wl n1 sh1 ad1 cy σ) ∧ va_D A (wl n2 sh2 ad2 cy τ) ∧ (∀ i j, i < n1 → j < n2 → ad1 i ≠ ad2 j) ∧ va_S A H0 H locs ∧ (∀ q, H0.size ≤ q → A q)
theorem LW.swap {D : va_G} {cy : ClassId × ClassId} {n1 : Nat} {sh1 : Nat → Sh} {ad1 : Nat → Nat} {n2 : Nat} {sh2 : Nat → Sh} {ad2 : Nat → Nat} {A : Nat → Prop} {H0 : Heap} {σ τ : Hp} {H : Heap} {locs : List Loc} (h : LW D cy n1 sh1 ad1 n2 sh2 ad2 A H0 σ τ H locs) : LW D cy n2 sh2 ad2 n1 sh1 ad1 A H0 τ σ H locs :=
  ⟨h.2.1, h.1, h.2.2.2.1, h.2.2.1, fun i j hi hj e => h.2.2.2.2.1 j i hj hi e.symm, h.2.2.2.2.2⟩
theorem LW.inA {D : va_G} {cy : ClassId × ClassId} {n1 : Nat} {sh1 : Nat → Sh} {ad1 : Nat → Nat} {n2 : Nat} {sh2 : Nat → Sh} {ad2 : Nat → Nat} {A : Nat → Prop} {H0 : Heap} {σ τ : Hp} {H : Heap} {locs : List Loc} (h : LW D cy n1 sh1 ad1 n2 sh2 ad2 A H0 σ τ H locs) : ∀ q, AX n1 ad1 H q → A q := by
  intro q hq
  rcases hq with ⟨i, hi, rfl⟩ | hq
  · exact wl_A h.2.2.1 hi
  · exact h.2.2.2.2.2.2 q (Nat.le_trans h.2.2.2.2.2.1.1 hq)
theorem LW.pre {p : Program} {m : MethodId} {c : Code} {cc : ByteArray} {nL : Nat} {s : State} {args : Array Value} {Ts : List Jvm.Cond} {own : String} {D : va_G} {cy : ClassId × ClassId} {n1 : Nat} {sh1 : Nat → Sh} {ad1 : Nat → Nat} {n2 : Nat} {sh2 : Nat → Sh} {ad2 : Nat → Nat} {A : Nat → Prop} {H0 : Heap} {σ τ : Hp} {H : Heap} {locs : List Loc} (hC : Cx p m c cc nL s args Ts own D cy) (h : LW D cy n1 sh1 ad1 n2 sh2 ad2 A H0 σ τ H locs) : ∀ U : State, U.heap = H → s.WarmedH U.vm → Wp D cy n1 sh1 ad1 (AX n1 ad1 H) σ U :=
  fun U hU hV => ⟨by rw [hU]; exact h.1, va_K.moved hV.alike hC.2.1, wl_D h.2.2.1 (fun k hk => Or.inl ⟨k, hk, rfl⟩), fun q hq => Or.inr (by rw [hU] at hq; exact hq), hC.2.2.warm hV⟩
theorem LW.post {D : va_G} {cy : ClassId × ClassId} {n1 : Nat} {sh1 : Nat → Sh} {ad1 : Nat → Nat} {n2 : Nat} {sh2 : Nat → Sh} {ad2 : Nat → Nat} {A : Nat → Prop} {H0 : Heap} {σ σ' τ : Hp} {H H1 : Heap} {locs locs1 : List Loc} {t : State} (h : LW D cy n1 sh1 ad1 n2 sh2 ad2 A H0 σ τ H locs) (ht : t.heap = H1) (hB : Wq D cy n1 sh1 ad1 (AX n1 ad1 H) σ' t) (hk : ∀ q : Nat, q < H.size → ¬ AX n1 ad1 H q → H1[q]? = H[q]?) (hS : va_S A H0 H1 locs1) : LW D cy n1 sh1 ad1 n2 sh2 ad2 A H0 σ' τ H1 locs1 := by
  refine ⟨by rw [← ht]; exact hB.1, h.2.1.kept (fun k q hq => ?_), wl_D h.2.2.1 (fun k hk => wl_A h.2.2.1 hk), h.2.2.2.1, h.2.2.2.2.1, hS, h.2.2.2.2.2.2⟩
  obtain ⟨k1, k2⟩ := wl_inv hq
  have hl := (h.2.1 k q hq).lt
  refine hk q.1 hl (fun z => ?_)
  rcases z with ⟨i, hi, e⟩ | z
  · exact h.2.2.2.2.1 i k hi k1 (e.symm.trans k2)
  · omega
section LR
variable {p : Program} {l : Launch} {e : Env} {R : Room} {s : State} {m : MethodId} {args : Array Value} {below : List Frame} {meth : Method} {c : Code} {H : Heap} {locs : List Loc} {cells slots : Nat} {Q : State → Prop}
variable {pc : Nat} {ls : Array Slot} {rest As : List Value} {cc : ByteArray} {nL : Nat} {Ts : List Jvm.Cond} {own : String} {D : va_G} {cy : ClassId × ClassId} {n1 : Nat} {sh1 : Nat → Sh} {ad1 : Nat → Nat} {n2 : Nat} {sh2 : Nat → Sh} {ad2 : Nat → Nat} {A : Nat → Prop} {σ σ' τ : Hp}
theorem law_i (hC : Cx p m c cc nL s args Ts own D cy) (h : LW D cy n1 sh1 ad1 n2 sh2 ad2 A s.heap σ τ H locs) {y : MethodName} {ws : List Jvm.Cond} {rm : Room} {C : String} {index maxL k ci N : Nat} {bytes : ByteArray} {ret : Option FieldType} {T : u_T} {fs : List (Option Nat)} {r : Int32} (hM : ∀ A1, Ci l y ws rm D cy n1 sh1 ad1 A1 (.ref (ad1 0) :: As) σ r σ') (cw : CallW R s args own C index y bytes maxL ret ws rm 0 0 k) (h0 : 0 < n1) (hs : sh1 0 = .inr (ci, fs)) (hc : vwCl[ci]? = some (C, T, N)) (hn : As.length = k) (hsz : ls.size = nL) (hw : (rest.map fun v => v.category).sum ≤ 8) (hdg : decode cc pc = .ok (.invokevirtual index, 3)) (hf : cells ≤ R.cells ∧ slots ≤ R.slots)
    (kk : ∀ (H1 : Heap) (locs1 : List Loc), LW D cy n1 sh1 ad1 n2 sh2 ad2 A s.heap σ' τ H1 locs1 → W p l e R s m args below meth c H1 locs1 cells slots Q (F0 m (pc + 3) ls (.int r :: rest))) : W p l e R s m args below meth c H locs cells slots Q (F0 m pc ls (As.reverse ++ .ref (ad1 0) :: rest)) :=
  va_calli (va_runV hC.1 (hM (AX n1 ad1 H)) cw ⟨Wp_blind, va_recv hC.2.1 h.1 hc (wl_obj h0 hs), fun U hU hV => ⟨rfl, h.pre hC U hU hV⟩⟩ rfl hn hsz rfl (lv_room hw) hdg hf) h.2.2.2.2.2.1 (fun q _ z => h.inA q z) h.inA (fun r' u t H1 locs1 ht hvm hw hB hz hk hS => by subst hw; exact kk H1 locs1 (h.post ht hB hk hS))
theorem law_l (hC : Cx p m c cc nL s args Ts own D cy) (h : LW D cy n1 sh1 ad1 n2 sh2 ad2 A s.heap σ τ H locs) {y : MethodName} {ws : List Jvm.Cond} {rm : Room} {C : String} {index maxL k ci N : Nat} {bytes : ByteArray} {ret : Option FieldType} {T : u_T} {fs : List (Option Nat)} {r : Int64} (hM : ∀ A1, Cl l y ws rm D cy n1 sh1 ad1 A1 (.ref (ad1 0) :: As) σ r σ') (cw : CallW R s args own C index y bytes maxL ret ws rm 0 0 k) (h0 : 0 < n1) (hs : sh1 0 = .inr (ci, fs)) (hc : vwCl[ci]? = some (C, T, N)) (hn : As.length = k) (hsz : ls.size = nL) (hw : (rest.map fun v => v.category).sum ≤ 8) (hdg : decode cc pc = .ok (.invokevirtual index, 3)) (hf : cells ≤ R.cells ∧ slots ≤ R.slots)
    (kk : ∀ (H1 : Heap) (locs1 : List Loc), LW D cy n1 sh1 ad1 n2 sh2 ad2 A s.heap σ' τ H1 locs1 → W p l e R s m args below meth c H1 locs1 cells slots Q (F0 m (pc + 3) ls (.long r :: rest))) : W p l e R s m args below meth c H locs cells slots Q (F0 m pc ls (As.reverse ++ .ref (ad1 0) :: rest)) :=
  va_calll (va_runV hC.1 (hM (AX n1 ad1 H)) cw ⟨Wp_blind, va_recv hC.2.1 h.1 hc (wl_obj h0 hs), fun U hU hV => ⟨rfl, h.pre hC U hU hV⟩⟩ rfl hn hsz rfl (lv_room hw) hdg hf) h.2.2.2.2.2.1 (fun q _ z => h.inA q z) h.inA (fun r' u t H1 locs1 ht hvm hw hB hz hk hS => by subst hw; exact kk H1 locs1 (h.post ht hB hk hS))
theorem law_lT {t0 : Nat} (hST : ST t0 A s) (hC : Cx p m c cc nL s args Ts own D cy) (h : LW D cy n1 sh1 ad1 n2 sh2 ad2 A s.heap σ τ H locs) {y : MethodName} {ws : List Jvm.Cond} {rm : Room} {C : String} {index maxL k ci N : Nat} {bytes : ByteArray} {ret : Option FieldType} {T : u_T} {fs : List (Option Nat)} {r : Int64} (hM : ∀ A1, ClT l y ws rm D cy n1 sh1 ad1 A1 t0 (.ref (ad1 0) :: As) σ r σ') (cw : CallW R s args own C index y bytes maxL ret ws rm 0 0 k) (h0 : 0 < n1) (hs : sh1 0 = .inr (ci, fs)) (hc : vwCl[ci]? = some (C, T, N)) (hn : As.length = k) (hsz : ls.size = nL) (hw : (rest.map fun v => v.category).sum ≤ 8) (hdg : decode cc pc = .ok (.invokevirtual index, 3)) (hf : cells ≤ R.cells ∧ slots ≤ R.slots)
    (kk : ∀ (H1 : Heap) (locs1 : List Loc), LW D cy n1 sh1 ad1 n2 sh2 ad2 A s.heap σ' τ H1 locs1 → W p l e R s m args below meth c H1 locs1 cells slots Q (F0 m (pc + 3) ls (.long r :: rest))) : W p l e R s m args below meth c H locs cells slots Q (F0 m pc ls (As.reverse ++ .ref (ad1 0) :: rest)) :=
  va_calll (va_runV hC.1 (hM (AX n1 ad1 H)) cw ⟨ST_blind, va_recv hC.2.1 h.1 hc (wl_obj h0 hs), fun U hU hV => ⟨rfl, h.pre hC U hU hV, by
    have hz := hST.at hV.alike h.2.2.2.2.2.1 hU
    exact ⟨hz.1.narrow h.inA, hz.2.narrow h.inA⟩⟩⟩ rfl hn hsz rfl (lv_room hw) hdg hf) h.2.2.2.2.2.1 (fun q _ z => h.inA q z) h.inA (fun r' u t H1 locs1 ht hvm hw hB hz hk hS => by subst hw; exact kk H1 locs1 (h.post ht hB hk hS))
end LR
theorem lg_self (x : Int64) : lg_cmp x x = 0 := by simp [lg_cmp]
