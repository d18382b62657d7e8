/-! The world of a system: n cells, cell o at the address ad o; what it holds is read off one function σ (cell, place) of ints; references never change. -/
abbrev Hp : Type := Nat → Nat → Int32
def hset (σ : Hp) (o k : Nat) (v : Int32) : Hp := fun a => if a = o then upd (σ o) k v else σ a
abbrev Sh : Type := (Bool × Nat) ⊕ (Nat × List (Option Nat))
def wval (ad : Nat → Nat) (x : Int32) (t : Option Nat) : Value := match t with
  | none => .int x
  | some t => .ref (ad t)
def wcell (sh : Nat → Sh) (ad : Nat → Nat) (cy : ClassId × ClassId) (σ : Hp) (o : Nat) : va_E := match sh o with
  | .inl q => .inl (bif q.1 then cy.2 else cy.1, q.2, .inl (σ o))
  | .inr q => .inr (q.1, q.2.mapIdx (fun j t => wval ad (σ o j) t))
def wl (n : Nat) (sh : Nat → Sh) (ad : Nat → Nat) (cy : ClassId × ClassId) (σ : Hp) : va_W := (List.range n).map (fun o => (ad o, wcell sh ad cy σ o))
theorem wl_at {n : Nat} {sh : Nat → Sh} {ad : Nat → Nat} {cy : ClassId × ClassId} {σ : Hp} {o : Nat} (ho : o < n) : (wl n sh ad cy σ)[o]? = some (ad o, wcell sh ad cy σ o) := by
  simp [wl, List.getElem?_map, List.getElem?_range ho]
theorem wl_arr {n : Nat} {sh : Nat → Sh} {ad : Nat → Nat} {cy : ClassId × ClassId} {σ : Hp} {o len : Nat} (ho : o < n) (hs : sh o = .inl (false, len)) : (wl n sh ad cy σ)[o]? = some (ad o, .inl (cy.1, len, .inl (σ o))) := by
  rw [wl_at ho]; simp [wcell, hs]
theorem wl_arz {n : Nat} {sh : Nat → Sh} {ad : Nat → Nat} {cy : ClassId × ClassId} {σ : Hp} {o len : Nat} (ho : o < n) (hs : sh o = .inl (true, len)) : (wl n sh ad cy σ)[o]? = some (ad o, .inl (cy.2, len, .inl (σ o))) := by
  rw [wl_at ho]; simp [wcell, hs]
theorem wl_obj {n : Nat} {sh : Nat → Sh} {ad : Nat → Nat} {cy : ClassId × ClassId} {σ : Hp} {o ci : Nat} {fs : List (Option Nat)} (ho : o < n) (hs : sh o = .inr (ci, fs)) : (wl n sh ad cy σ)[o]? = some (ad o, .inr (ci, fs.mapIdx (fun j t => wval ad (σ o j) t))) := by
  rw [wl_at ho]; simp [wcell, hs]
theorem hset_ne {σ : Hp} {o k a : Nat} {v : Int32} (h : a ≠ o) : hset σ o k v a = σ a := if_neg h
theorem hset_eq {σ : Hp} {o k : Nat} {v : Int32} : hset σ o k v o = upd (σ o) k v := if_pos rfl
theorem wcell_ne {sh : Nat → Sh} {ad : Nat → Nat} {cy : ClassId × ClassId} {σ : Hp} {o k a : Nat} {v : Int32} (h : a ≠ o) : wcell sh ad cy (hset σ o k v) a = wcell sh ad cy σ a := by
  simp only [wcell, hset_ne h]
theorem wl_set {n : Nat} {sh : Nat → Sh} {ad : Nat → Nat} {cy : ClassId × ClassId} {σ : Hp} {o k : Nat} {v : Int32} {e : va_E} (h1 : wcell sh ad cy (hset σ o k v) o = e) : (wl n sh ad cy σ).set o (ad o, e) = wl n sh ad cy (hset σ o k v) := by
  apply List.ext_getElem?
  intro j
  subst h1
  by_cases hj : j = o
  · subst hj
    by_cases hn : j < n
    · rw [wl_at hn, List.getElem?_set_self (by simpa [wl] using hn)]
    · rw [List.getElem?_eq_none (by simpa [wl] using hn), List.getElem?_eq_none (by simpa [wl] using hn)]
  · rw [List.getElem?_set_ne (Ne.symm hj)]
    by_cases hn : j < n
    · rw [wl_at hn, wl_at hn, wcell_ne hj]
    · rw [List.getElem?_eq_none (by simpa [wl] using hn), List.getElem?_eq_none (by simpa [wl] using hn)]
theorem wl_setA {n : Nat} {sh : Nat → Sh} {ad : Nat → Nat} {cy : ClassId × ClassId} {σ : Hp} {o k len : Nat} {v : Int32} (hs : sh o = .inl (false, len)) : (wl n sh ad cy σ).set o (ad o, .inl (cy.1, len, .inl (upd (σ o) k v))) = wl n sh ad cy (hset σ o k v) :=
  wl_set (by simp [wcell, hs, hset_eq])
theorem wl_setZ {n : Nat} {sh : Nat → Sh} {ad : Nat → Nat} {cy : ClassId × ClassId} {σ : Hp} {o k len : Nat} {v : Int32} (hs : sh o = .inl (true, len)) : (wl n sh ad cy σ).set o (ad o, .inl (cy.2, len, .inl (upd (σ o) k v))) = wl n sh ad cy (hset σ o k v) :=
  wl_set (by simp [wcell, hs, hset_eq])
theorem wl_setF {n : Nat} {sh : Nat → Sh} {ad : Nat → Nat} {cy : ClassId × ClassId} {σ : Hp} {o k ci : Nat} {v : Int32} {fs : List (Option Nat)} (hs : sh o = .inr (ci, fs)) (hf : fs[k]? = some none) : (wl n sh ad cy σ).set o (ad o, .inr (ci, (fs.mapIdx (fun j t => wval ad (σ o j) t)).set k (.int v))) = wl n sh ad cy (hset σ o k v) := by
  refine wl_set ?_
  simp only [wcell, hs, hset_eq]
  congr 2
  apply List.ext_getElem?
  intro j
  have hl := (List.getElem?_eq_some_iff.mp hf).1
  by_cases hj : j = k
  · subst hj
    rw [List.getElem?_set_self (by simpa using hl), List.getElem?_mapIdx, hf]
    simp [wval, upd]
  · rw [List.getElem?_set_ne (Ne.symm hj), List.getElem?_mapIdx, List.getElem?_mapIdx]
    simp [upd, hj]
/-- the words of nest mates among the tables' -/
def nst : Jvm.Cond → Bool
  | .fieldLinkNest _ _ _ _ _ _ => true
  | .methodLinkNest _ _ _ _ => true
  | _ => false
def NL (U : State) : Prop := ∀ w ∈ tables_1, nst w = true → va_Nw w U
theorem NL.warm {s U : State} (hW : s.WarmedH U.vm) (h : NL s) : NL U := by
  intro w hw hn
  have h1 := h w hw hn
  cases w <;> first | (exact va_Nw.warmF hW h1) | (exact va_Nw.warmM hW h1) | (simp [nst] at hn)
theorem nst_tab {w : Jvm.Cond} (h : nst w = true) : w.onTables = true := by
  cases w <;> first | rfl | (simp [nst] at h)
theorem NL.same {u U : State} (hv : u.vm = U.vm) (h : NL u) : NL U := fun w hw hn => (h w hw hn).same (nst_tab hn) hv
theorem NL.use {U : State} {A : Array Value} (h : NL U) {w : Jvm.Cond} (hw : w ∈ tables_1) (hn : nst w = true) : w.before A U = true := (h w hw hn).use (nst_tab hn)
/-- what a method of a system finds -/
def Wp (D : va_G) (cy : ClassId × ClassId) (n : Nat) (sh : Nat → Sh) (ad : Nat → Nat) (A : Nat → Prop) (σ : Hp) (U : State) : Prop :=
  va_P D vwCl (wl n sh ad cy σ) U.heap ∧ va_K D vwCl [(cy.1, .int), (cy.2, .boolean)] U ∧ va_D A (wl n sh ad cy σ) ∧ (∀ q, U.heap.size ≤ q → A q) ∧ NL U
/-- what it leaves -/
def Wq (D : va_G) (cy : ClassId × ClassId) (n : Nat) (sh : Nat → Sh) (ad : Nat → Nat) (A : Nat → Prop) (σ : Hp) (t : State) : Prop :=
  va_P D vwCl (wl n sh ad cy σ) t.heap ∧ va_D A (wl n sh ad cy σ)
/-- within a method -/
def Wd (D : va_G) (cy : ClassId × ClassId) (n : Nat) (sh : Nat → Sh) (ad : Nat → Nat) (A : Nat → Prop) (H0 : Heap) (σ : Hp) (H : Heap) (locs : List Loc) : Prop :=
  va_P D vwCl (wl n sh ad cy σ) H ∧ va_D A (wl n sh ad cy σ) ∧ va_S A H0 H locs ∧ ∀ q, H0.size ≤ q → A q
def Cx (p : Program) (m : MethodId) (c : Code) (cc : ByteArray) (nL : Nat) (s : State) (args : Array Value) (Ts : List Jvm.Cond) (own : String) (D : va_G) (cy : ClassId × ClassId) : Prop :=
  CallFix p m c cc nL s args Ts own ∧ va_K D vwCl [(cy.1, .int), (cy.2, .boolean)] s ∧ NL s
/-- contracts: an int, a long, nothing comes back -/
def Ci (l : Launch) (y : MethodName) (ws : List Jvm.Cond) (rm : Room) (D : va_G) (cy : ClassId × ClassId) (n : Nat) (sh : Nat → Sh) (ad : Nat → Nat) (A : Nat → Prop) (as : List Value) (σ : Hp) (r : Int32) (σ' : Hp) : Prop :=
  Met l y ws rm (va_Pc as (Wp D cy n sh ad A σ)) (va_Qi (fun (r' : Int32) (_ : Unit) => r' = r) (fun _ => Wq D cy n sh ad A σ') A) 0 0 A
def Cl (l : Launch) (y : MethodName) (ws : List Jvm.Cond) (rm : Room) (D : va_G) (cy : ClassId × ClassId) (n : Nat) (sh : Nat → Sh) (ad : Nat → Nat) (A : Nat → Prop) (as : List Value) (σ : Hp) (r : Int64) (σ' : Hp) : Prop :=
  Met l y ws rm (va_Pc as (Wp D cy n sh ad A σ)) (va_Ql (fun (r' : Int64) (_ : Unit) => r' = r) (fun _ => Wq D cy n sh ad A σ') A) 0 0 A
def Cv (l : Launch) (y : MethodName) (ws : List Jvm.Cond) (rm : Room) (D : va_G) (cy : ClassId × ClassId) (n : Nat) (sh : Nat → Sh) (ad : Nat → Nat) (A : Nat → Prop) (as : List Value) (σ : Hp) (σ' : Hp) : Prop :=
  Met l y ws rm (va_Pc as (Wp D cy n sh ad A σ)) (va_Qv (fun (_ : Unit) => True) (fun _ => Wq D cy n sh ad A σ') A) 0 0 A
theorem Wp_blind {as : List Value} {D : va_G} {cy : ClassId × ClassId} {n : Nat} {sh : Nat → Sh} {ad : Nat → Nat} {A : Nat → Prop} {σ : Hp} : FrameBlind (va_Pc as (Wp D cy n sh ad A σ)) := fun a U g mk q => by
  obtain ⟨q0, qP, qK, qD, qA, qN⟩ := q
  exact ⟨q0, qP, va_K.moved (u := U) (U := U.calling g mk a) (Vm.Alike.refl U.vm) qK, qD, qA, NL.same (u := U) (U := U.calling g mk a) rfl qN⟩
/-! the words of twins: a value that is named, an index that must be in, a divisor, a boolean -/
def bnd {α β : Type} (x : α) (f : α → β) : β := f x
def gi {α : Type} (i : Int32) (n : Nat) (t : Option α) : Option α := if i < 0 ∨ n ≤ i.toNatClampNeg then none else t
def dz {α : Type} (y : Int32) (t : Option α) : Option α := if y = 0 then none else t
def dl {α : Type} (y : Int64) (t : Option α) : Option α := if y = 0 then none else t
def zb {α : Type} (v : Int32) (t : Option α) : Option α := if v = 0 ∨ v = 1 then t else none
def loopG {T : Type} (z : T) (F : T → T) : Nat → T
  | 0 => z
  | n + 1 => F (loopG z F n)
theorem loopG_ind {T : Type} {z : T} {F : T → T} (P : T → Prop) (h0 : P z) (hs : ∀ k, P k → P (F k)) : ∀ n, P (loopG z F n)
  | 0 => h0
  | n + 1 => hs _ (loopG_ind P h0 hs n)
theorem bn {α β : Type} {x y : α} {f : α → β} {r : β} (e : y = x) (h : bnd x f = r) : f y = r := by subst e; exact h
theorem bx {α β : Type} {x : α} {f : α → β} {r : β} (h : bnd x f = r) : ∃ y, y = x ∧ f y = r := ⟨x, rfl, h⟩
theorem og {α : Type} {i : Int32} {n : Nat} {t : Option α} {r : α} (h : gi i n t = some r) : vp_in i n ∧ t = some r := by
  unfold gi at h
  by_cases q : i < 0 ∨ n ≤ i.toNatClampNeg
  · rw [if_pos q] at h; cases h
  · rw [if_neg q] at h; exact ⟨q, h⟩
theorem od {α : Type} {y : Int32} {t : Option α} {r : α} (h : dz y t = some r) : ¬ y = 0 ∧ t = some r := by
  unfold dz at h
  by_cases q : y = 0
  · rw [if_pos q] at h; cases h
  · rw [if_neg q] at h; exact ⟨q, h⟩
theorem ol {α : Type} {y : Int64} {t : Option α} {r : α} (h : dl y t = some r) : ¬ y = 0 ∧ t = some r := by
  unfold dl at h
  by_cases q : y = 0
  · rw [if_pos q] at h; cases h
  · rw [if_neg q] at h; exact ⟨q, h⟩
theorem oz {α : Type} {v : Int32} {t : Option α} {r : α} (h : zb v t = some r) : (v = 0 ∨ v = 1) ∧ t = some r := by
  unfold zb at h
  by_cases q : v = 0 ∨ v = 1
  · rw [if_pos q] at h; exact ⟨q, h⟩
  · rw [if_neg q] at h; cases h
theorem bd {α β : Type} {o : Option α} {f : α → Option β} {r : β} (h : o.bind f = some r) : ∃ y, o = some y ∧ f y = some r := by
  cases o with
  | none => cases h
  | some y => exact ⟨y, rfl, h⟩
theorem bp {α β γ : Type} {o : Option (α × β)} {f : α → β → Option γ} {r : γ} (h : (o.bind fun q => f q.1 q.2) = some r) : ∃ a b, o = some (a, b) ∧ f a b = some r := by
  cases o with
  | none => cases h
  | some y => exact ⟨y.1, y.2, rfl, h⟩
theorem tp {α : Type} {c : Prop} [Decidable c] {a b x : α} (hc : c) (h : (if c then a else b) = x) : a = x := by rw [if_pos hc] at h; exact h
theorem tn {α : Type} {c : Prop} [Decidable c] {a b x : α} (hc : ¬ c) (h : (if c then a else b) = x) : b = x := by rw [if_neg hc] at h; exact h
theorem nz {v : Int32} (h : v = 0 ∨ v = 1) : narrow .boolean (.int v) = .int v ∧ fits .boolean (.int v) = true := by
  rcases h with rfl | rfl <;> exact ⟨by decide +kernel, by decide +kernel⟩
theorem pc_e {p : Program} {l : Launch} {e : Env} {R : Room} {s : State} {m : MethodId} {args : Array Value} {below : List Frame} {meth : Method} {c : Code} {H : Heap} {locs : List Loc} {cells slots : Nat} {Q : State → Prop} {ls : Array Slot} {st : List Value} {a b : Nat} (h : a = b) (k : W p l e R s m args below meth c H locs cells slots Q (F0 m b ls st)) : W p l e R s m args below meth c H locs cells slots Q (F0 m a ls st) := by subst h; exact k
section RW
variable {p : Program} {l : Launch} {e : Env} {R : Room} {s : State} {m : MethodId} {args : Array Value} {below : List Frame} {meth : Method} {c : Code} {H : Heap} {locs : List Loc} {cells slots : Nat} {Q : State → Prop}
variable {pc : Nat} {ls : Array Slot} {rest : List Value} {cc : ByteArray} {nL : Nat} {Ts : List Jvm.Cond} {own : String} {D : va_G} {cy : ClassId × ClassId} {n : Nat} {sh : Nat → Sh} {ad : Nat → Nat} {A : Nat → Prop} {H0 : Heap} {σ σ' : Hp}
theorem r_geti (hC : Cx p m c cc nL s args Ts own D cy) (hW : Wd D cy n sh ad A H0 σ H locs) {ref C : String} {T : u_T} {N ci index o : Nat} {fs : List (Option Nat)} (k : Nat) (ho : o < n) (hs : sh o = .inr (ci, fs)) (hf : fs[k]? = some none) (hc : vwCl[ci]? = some (C, T, N)) (hk : k < N) (hin : ∀ w ∈ u_ws C T N, w ∈ Ts) (hlink : (Jvm.Cond.fieldLink own index ref (T k).2.1 (T k).2.2.1).before args s = true) (hr : (T k).1 = ref) (hdg : decode cc pc = .ok (.getfield index, 3))
    (kk : W p l e R s m args below meth c H locs cells slots Q (F0 m (pc + 3) ls (.int (σ o k) :: rest))) : W p l e R s m args below meth c H locs cells slots Q (F0 m pc ls (.ref (ad o) :: rest)) :=
  va_get hC.1.1 hC.1.2.1 hC.1.2.2.2.2 hin hC.1.2.2.2.1 hC.2.1 hW.1 o (wl_obj ho hs) hc k hk hlink (fun _ h => hr ▸ h) (by rw [List.getElem?_mapIdx, hf]; rfl) hdg kk
theorem r_getr (hC : Cx p m c cc nL s args Ts own D cy) (hW : Wd D cy n sh ad A H0 σ H locs) {ref C : String} {T : u_T} {N ci index o t : Nat} {fs : List (Option Nat)} (k : Nat) (ho : o < n) (hs : sh o = .inr (ci, fs)) (hf : fs[k]? = some (some t)) (hc : vwCl[ci]? = some (C, T, N)) (hk : k < N) (hin : ∀ w ∈ u_ws C T N, w ∈ Ts) (hlink : (Jvm.Cond.fieldLink own index ref (T k).2.1 (T k).2.2.1).before args s = true) (hr : (T k).1 = ref) (hdg : decode cc pc = .ok (.getfield index, 3))
    (kk : W p l e R s m args below meth c H locs cells slots Q (F0 m (pc + 3) ls (.ref (ad t) :: rest))) : W p l e R s m args below meth c H locs cells slots Q (F0 m pc ls (.ref (ad o) :: rest)) :=
  va_get hC.1.1 hC.1.2.1 hC.1.2.2.2.2 hin hC.1.2.2.2.1 hC.2.1 hW.1 o (wl_obj ho hs) hc k hk hlink (fun _ h => hr ▸ h) (by rw [List.getElem?_mapIdx, hf]; rfl) hdg kk
theorem r_getiN (hC : Cx p m c cc nL s args Ts own D cy) (hW : Wd D cy n sh ad A H0 σ H locs) {ref C host : String} {T : u_T} {N ci index o : Nat} {fs : List (Option Nat)} (k : Nat) (ho : o < n) (hs : sh o = .inr (ci, fs)) (hf : fs[k]? = some none) (hc : vwCl[ci]? = some (C, T, N)) (hk : k < N) (hin : ∀ w ∈ u_ws C T N, w ∈ Ts) (hlink : (Jvm.Cond.fieldLinkNest own index ref (T k).2.1 (T k).2.2.1 host).before args s = true) (hr : (T k).1 = ref) (hdg : decode cc pc = .ok (.getfield index, 3))
    (kk : W p l e R s m args below meth c H locs cells slots Q (F0 m (pc + 3) ls (.int (σ o k) :: rest))) : W p l e R s m args below meth c H locs cells slots Q (F0 m pc ls (.ref (ad o) :: rest)) :=
  va_getN hC.1.1 hC.1.2.1 hC.1.2.2.2.2 hin hC.1.2.2.2.1 hC.2.1 hW.1 o (wl_obj ho hs) hc k hk hlink (fun _ h => hr ▸ h) (by rw [List.getElem?_mapIdx, hf]; rfl) hdg kk
theorem r_getrN (hC : Cx p m c cc nL s args Ts own D cy) (hW : Wd D cy n sh ad A H0 σ H locs) {ref C host : String} {T : u_T} {N ci index o t : Nat} {fs : List (Option Nat)} (k : Nat) (ho : o < n) (hs : sh o = .inr (ci, fs)) (hf : fs[k]? = some (some t)) (hc : vwCl[ci]? = some (C, T, N)) (hk : k < N) (hin : ∀ w ∈ u_ws C T N, w ∈ Ts) (hlink : (Jvm.Cond.fieldLinkNest own index ref (T k).2.1 (T k).2.2.1 host).before args s = true) (hr : (T k).1 = ref) (hdg : decode cc pc = .ok (.getfield index, 3))
    (kk : W p l e R s m args below meth c H locs cells slots Q (F0 m (pc + 3) ls (.ref (ad t) :: rest))) : W p l e R s m args below meth c H locs cells slots Q (F0 m pc ls (.ref (ad o) :: rest)) :=
  va_getN hC.1.1 hC.1.2.1 hC.1.2.2.2.2 hin hC.1.2.2.2.1 hC.2.1 hW.1 o (wl_obj ho hs) hc k hk hlink (fun _ h => hr ▸ h) (by rw [List.getElem?_mapIdx, hf]; rfl) hdg kk
theorem r_put (hC : Cx p m c cc nL s args Ts own D cy) (hW : Wd D cy n sh ad A H0 σ H locs) {ref C : String} {T : u_T} {N ci index o : Nat} {fs : List (Option Nat)} (k : Nat) (ho : o < n) (hs : sh o = .inr (ci, fs)) (hf : fs[k]? = some none) (hc : vwCl[ci]? = some (C, T, N)) (hk : k < N) (hin : ∀ w ∈ u_ws C T N, w ∈ Ts) (ty0 : Nat → FieldType) (hty : ∀ k, k < N → parseFieldDescriptor (T k).2.2.1 = some (ty0 k)) (hnm : ∀ a, a < N → ∀ b, b < N → a ≠ b → (T a).2.1 ≠ (T b).2.1) (hlink : (Jvm.Cond.fieldLink own index ref (T k).2.1 (T k).2.2.1).before args s = true) (hr : (T k).1 = ref) (hfin : (T k).2.2.2 = false) {v : Int32} (hn : narrow (ty0 k) (.int v) = .int v ∧ fits (ty0 k) (.int v) = true) (hdg : decode cc pc = .ok (.putfield index, 3))
    (kk : ∀ σ1 : Hp, σ1 = hset σ o k v → ∀ (H1 : Heap) (locs1 : List Loc), Wd D cy n sh ad A H0 σ1 H1 locs1 → W p l e R s m args below meth c H1 locs1 cells slots Q (F0 m (pc + 3) ls rest)) : W p l e R s m args below meth c H locs cells slots Q (F0 m pc ls (.int v :: .ref (ad o) :: rest)) :=
  va_put hC.1.1 hC.1.2.1 hC.1.2.2.2.2 hin ty0 hty hnm hC.1.2.2.2.1 hC.2.1 hW.1 hW.2.1 hW.2.2.1 o (wl_obj ho hs) hc k hk hlink (fun _ h => hr ▸ h) hfin (hty k hk) hn.1 hn.2 (by rw [List.length_mapIdx]; exact (List.getElem?_eq_some_iff.mp hf).1) hdg (fun H1 locs1 hP hD hS => kk _ rfl H1 locs1 (by rw [wl_setF hs hf] at hP hD; exact ⟨hP, hD, hS, hW.2.2.2⟩))
theorem r_putN (hC : Cx p m c cc nL s args Ts own D cy) (hW : Wd D cy n sh ad A H0 σ H locs) {ref C host : String} {T : u_T} {N ci index o : Nat} {fs : List (Option Nat)} (k : Nat) (ho : o < n) (hs : sh o = .inr (ci, fs)) (hf : fs[k]? = some none) (hc : vwCl[ci]? = some (C, T, N)) (hk : k < N) (hin : ∀ w ∈ u_ws C T N, w ∈ Ts) (ty0 : Nat → FieldType) (hty : ∀ k, k < N → parseFieldDescriptor (T k).2.2.1 = some (ty0 k)) (hnm : ∀ a, a < N → ∀ b, b < N → a ≠ b → (T a).2.1 ≠ (T b).2.1) (hlink : (Jvm.Cond.fieldLinkNest own index ref (T k).2.1 (T k).2.2.1 host).before args s = true) (hr : (T k).1 = ref) (hfin : (T k).2.2.2 = false) {v : Int32} (hn : narrow (ty0 k) (.int v) = .int v ∧ fits (ty0 k) (.int v) = true) (hdg : decode cc pc = .ok (.putfield index, 3))
    (kk : ∀ σ1 : Hp, σ1 = hset σ o k v → ∀ (H1 : Heap) (locs1 : List Loc), Wd D cy n sh ad A H0 σ1 H1 locs1 → W p l e R s m args below meth c H1 locs1 cells slots Q (F0 m (pc + 3) ls rest)) : W p l e R s m args below meth c H locs cells slots Q (F0 m pc ls (.int v :: .ref (ad o) :: rest)) :=
  va_putN hC.1.1 hC.1.2.1 hC.1.2.2.2.2 hin ty0 hty hnm hC.1.2.2.2.1 hC.2.1 hW.1 hW.2.1 hW.2.2.1 o (wl_obj ho hs) hc k hk hlink (fun _ h => hr ▸ h) hfin (hty k hk) hn.1 hn.2 (by rw [List.length_mapIdx]; exact (List.getElem?_eq_some_iff.mp hf).1) hdg (fun H1 locs1 hP hD hS => kk _ rfl H1 locs1 (by rw [wl_setF hs hf] at hP hD; exact ⟨hP, hD, hS, hW.2.2.2⟩))
theorem r_ald (hC : Cx p m c cc nL s args Ts own D cy) (hW : Wd D cy n sh ad A H0 σ H locs) {a len : Nat} (ho : a < n) (hs : sh a = .inl (false, len)) {i : Int32} (hi : vp_in i len) (hdg : decode cc pc = .ok (.iaload, 1))
    (kk : W p l e R s m args below meth c H locs cells slots Q (F0 m (pc + 1) ls (.int (σ a i.toNatClampNeg) :: rest))) : W p l e R s m args below meth c H locs cells slots Q (F0 m pc ls (.int i :: .ref (ad a) :: rest)) :=
  va_iald hC.1.1 hC.1.2.1 hC.2.1 hW.1 a 0 (wl_arr ho hs) rfl hi hdg kk
theorem r_zald (hC : Cx p m c cc nL s args Ts own D cy) (hW : Wd D cy n sh ad A H0 σ H locs) {a len : Nat} (ho : a < n) (hs : sh a = .inl (true, len)) {i : Int32} (hi : vp_in i len) (hdg : decode cc pc = .ok (.baload, 1))
    (kk : W p l e R s m args below meth c H locs cells slots Q (F0 m (pc + 1) ls (.int (σ a i.toNatClampNeg) :: rest))) : W p l e R s m args below meth c H locs cells slots Q (F0 m pc ls (.int i :: .ref (ad a) :: rest)) :=
  va_zald hC.1.1 hC.1.2.1 hC.2.1 hW.1 a 1 (wl_arz ho hs) rfl hi hdg kk
theorem r_ast (hC : Cx p m c cc nL s args Ts own D cy) (hW : Wd D cy n sh ad A H0 σ H locs) {a len : Nat} (ho : a < n) (hs : sh a = .inl (false, len)) {i x : Int32} (hi : vp_in i len) (hdg : decode cc pc = .ok (.iastore, 1))
    (kk : ∀ σ1 : Hp, σ1 = hset σ a i.toNatClampNeg x → ∀ (H1 : Heap) (locs1 : List Loc), Wd D cy n sh ad A H0 σ1 H1 locs1 → W p l e R s m args below meth c H1 locs1 cells slots Q (F0 m (pc + 1) ls rest)) : W p l e R s m args below meth c H locs cells slots Q (F0 m pc ls (.int x :: .int i :: .ref (ad a) :: rest)) :=
  va_iast hC.1.1 hC.1.2.1 hC.2.1 hW.1 hW.2.1 hW.2.2.1 a 0 (wl_arr ho hs) rfl hi hdg (fun H1 locs1 hP hD hS => kk _ rfl H1 locs1 (by rw [wl_setA hs] at hP hD; exact ⟨hP, hD, hS, hW.2.2.2⟩))
theorem r_zast (hC : Cx p m c cc nL s args Ts own D cy) (hW : Wd D cy n sh ad A H0 σ H locs) {a len : Nat} (ho : a < n) (hs : sh a = .inl (true, len)) {i x : Int32} (hi : vp_in i len) (hdg : decode cc pc = .ok (.bastore, 1))
    (kk : ∀ σ1 : Hp, σ1 = hset σ a i.toNatClampNeg (vp_nar .boolean x) → ∀ (H1 : Heap) (locs1 : List Loc), Wd D cy n sh ad A H0 σ1 H1 locs1 → W p l e R s m args below meth c H1 locs1 cells slots Q (F0 m (pc + 1) ls rest)) : W p l e R s m args below meth c H locs cells slots Q (F0 m pc ls (.int x :: .int i :: .ref (ad a) :: rest)) :=
  va_zast hC.1.1 hC.1.2.1 hC.2.1 hW.1 hW.2.1 hW.2.2.1 a 1 (wl_arz ho hs) rfl hi hdg (fun H1 locs1 hP hD hS => kk _ rfl H1 locs1 (by rw [wl_setZ hs] at hP hD; exact ⟨hP, hD, hS, hW.2.2.2⟩))
theorem r_alen (hC : Cx p m c cc nL s args Ts own D cy) (hW : Wd D cy n sh ad A H0 σ H locs) {a len : Nat} (ho : a < n) (hs : sh a = .inl (false, len)) (hdg : decode cc pc = .ok (.arraylength, 1))
    (kk : W p l e R s m args below meth c H locs cells slots Q (F0 m (pc + 1) ls (.int (Int32.ofNat len) :: rest))) : W p l e R s m args below meth c H locs cells slots Q (F0 m pc ls (.ref (ad a) :: rest)) :=
  va_alen hC.1.1 hC.1.2.1 hC.2.1 hW.1 a 0 (wl_arr ho hs) rfl rfl hdg kk
theorem r_preS {as : List Value} (hC : Cx p m c cc nL s args Ts own D cy) (hW : Wd D cy n sh ad A H0 σ H locs) : PreS s H (va_Pc as (Wp D cy n sh ad A σ)) as :=
  ⟨Wp_blind, fun U hU hV => ⟨rfl, by rw [hU]; exact hW.1, va_K.moved hV.alike hC.2.1, hW.2.1, fun q hq => hW.2.2.2 q (Nat.le_trans hW.2.2.1.1 (by rw [hU] at hq; exact hq)), hC.2.2.warm hV⟩⟩
theorem r_preV {as : List Value} (hC : Cx p m c cc nL s args Ts own D cy) (hW : Wd D cy n sh ad A H0 σ H locs) {C : String} {T : u_T} {N ci o : Nat} {fs : List (Option Nat)} (ho : o < n) (hs : sh o = .inr (ci, fs)) (hc : vwCl[ci]? = some (C, T, N)) : PreV s H C (ad o) (va_Pc (.ref (ad o) :: as) (Wp D cy n sh ad A σ)) as :=
  ⟨Wp_blind, va_recv hC.2.1 hW.1 hc (wl_obj ho hs), (r_preS hC hW).2⟩
theorem r_calli {a : Array Value} {st0 : List Value} {r : Int32} (hW : Wd D cy n sh ad A H0 σ H locs) (hr : va_Run p l e R s m args below meth c H locs cells slots 0 0 (F0 m pc ls st0) rest (va_Qi (fun (r' : Int32) (_ : Unit) => r' = r) (fun _ => Wq D cy n sh ad A σ') A a) A)
    (kk : ∀ (H1 : Heap) (locs1 : List Loc), Wd D cy n sh ad A H0 σ' H1 locs1 → W p l e R s m args below meth c H1 locs1 cells slots Q (F0 m (pc + 3) ls (.int r :: rest))) : W p l e R s m args below meth c H locs cells slots Q (F0 m pc ls st0) :=
  va_calli hr hW.2.2.1 (fun _ _ h => h) (fun _ h => h) (fun r' u t H1 locs1 ht hvm hw hB hz hk hS => by
    subst hw
    exact kk H1 locs1 ⟨by rw [← ht]; exact hB.1, hB.2, hS, hW.2.2.2⟩)
theorem r_calll {a : Array Value} {st0 : List Value} {r : Int64} (hW : Wd D cy n sh ad A H0 σ H locs) (hr : va_Run p l e R s m args below meth c H locs cells slots 0 0 (F0 m pc ls st0) rest (va_Ql (fun (r' : Int64) (_ : Unit) => r' = r) (fun _ => Wq D cy n sh ad A σ') A a) A)
    (kk : ∀ (H1 : Heap) (locs1 : List Loc), Wd D cy n sh ad A H0 σ' H1 locs1 → W p l e R s m args below meth c H1 locs1 cells slots Q (F0 m (pc + 3) ls (.long r :: rest))) : W p l e R s m args below meth c H locs cells slots Q (F0 m pc ls st0) :=
  va_calll hr hW.2.2.1 (fun _ _ h => h) (fun _ h => h) (fun r' u t H1 locs1 ht hvm hw hB hz hk hS => by
    subst hw
    exact kk H1 locs1 ⟨by rw [← ht]; exact hB.1, hB.2, hS, hW.2.2.2⟩)
theorem r_callv {a : Array Value} {st0 : List Value} (hW : Wd D cy n sh ad A H0 σ H locs) (hr : va_Run p l e R s m args below meth c H locs cells slots 0 0 (F0 m pc ls st0) rest (va_Qv (fun (_ : Unit) => True) (fun _ => Wq D cy n sh ad A σ') A a) A)
    (kk : ∀ (H1 : Heap) (locs1 : List Loc), Wd D cy n sh ad A H0 σ' H1 locs1 → W p l e R s m args below meth c H1 locs1 cells slots Q (F0 m (pc + 3) ls rest)) : W p l e R s m args below meth c H locs cells slots Q (F0 m pc ls st0) :=
  va_callv hr hW.2.2.1 (fun _ _ h => h) (fun _ h => h) (fun u t H1 locs1 ht hvm hw hB hz hk hS => by
    exact kk H1 locs1 ⟨by rw [← ht]; exact hB.1, hB.2, hS, hW.2.2.2⟩)
theorem r_iret {r : Int32} (hC : Cx p m c cc nL s args Ts own D cy) (hr : meth.sig.returnType = some .int) (hlocks : meth.locks = false) (hW : Wd D cy n sh ad A s.heap σ' H locs) (hdg : decode cc pc = .ok (.ireturn, 1)) : W p l e R s m args below meth c H locs 0 0 (MQ below (va_Qi (fun (r' : Int32) (_ : Unit) => r' = r) (fun _ => Wq D cy n sh ad A σ') A) args s 0 0 A) (F0 m pc ls [.int r]) :=
  W.iret hC.1.1 hC.1.2.1 hr (fun t ht hV => ⟨⟨r, (), rfl, rfl, And.intro (by rw [ht]; exact hW.1) hW.2.1⟩, hW.2.2.1.F ht⟩) hW.2.2.1.2.2 hdg hlocks
theorem r_zret {r : Int32} (hz : r = 0 ∨ r = 1) (hC : Cx p m c cc nL s args Ts own D cy) (hr : meth.sig.returnType = some .boolean) (hlocks : meth.locks = false) (hW : Wd D cy n sh ad A s.heap σ' H locs) (hdg : decode cc pc = .ok (.ireturn, 1)) : W p l e R s m args below meth c H locs 0 0 (MQ below (va_Qi (fun (r' : Int32) (_ : Unit) => r' = r) (fun _ => Wq D cy n sh ad A σ') A) args s 0 0 A) (F0 m pc ls [.int r]) :=
  W.zret hC.1.1 hC.1.2.1 hr (nz hz).1 (fun t ht hV => ⟨⟨r, (), rfl, rfl, And.intro (by rw [ht]; exact hW.1) hW.2.1⟩, hW.2.2.1.F ht⟩) hW.2.2.1.2.2 hdg hlocks
theorem r_lret {r : Int64} (hC : Cx p m c cc nL s args Ts own D cy) (hr : meth.sig.returnType = some .long) (hlocks : meth.locks = false) (hW : Wd D cy n sh ad A s.heap σ' H locs) (hdg : decode cc pc = .ok (.lreturn, 1)) : W p l e R s m args below meth c H locs 0 0 (MQ below (va_Ql (fun (r' : Int64) (_ : Unit) => r' = r) (fun _ => Wq D cy n sh ad A σ') A) args s 0 0 A) (F0 m pc ls [.long r]) :=
  W.lret hC.1.1 hC.1.2.1 hr (fun t ht hV => ⟨⟨r, (), rfl, rfl, And.intro (by rw [ht]; exact hW.1) hW.2.1⟩, hW.2.2.1.F ht⟩) hW.2.2.1.2.2 hdg hlocks
theorem r_vret (hC : Cx p m c cc nL s args Ts own D cy) (hr : meth.sig.returnType = none) (hlocks : meth.locks = false) (hW : Wd D cy n sh ad A s.heap σ' H locs) (hdg : decode cc pc = .ok (.return_, 1)) : W p l e R s m args below meth c H locs 0 0 (MQ below (va_Qv (fun (_ : Unit) => True) (fun _ => Wq D cy n sh ad A σ') A) args s 0 0 A) (F0 m pc ls []) :=
  W.vret hC.1.1 hC.1.2.1 hr (fun t ht hV => ⟨⟨(), rfl, trivial, And.intro (by rw [ht]; exact hW.1) hW.2.1⟩, hW.2.2.1.F ht⟩) hW.2.2.1.2.2 hdg hlocks
end RW
section RX
variable {p : Program} {l : Launch} {e : Env} {R : Room} {s : State} {m : MethodId} {args : Array Value} {below : List Frame} {meth : Method} {c : Code} {H : Heap} {locs : List Loc} {cells slots : Nat} {Q : State → Prop}
variable {pc : Nat} {ls : Array Slot} {rest : List Value} {cc : ByteArray} {nL : Nat} {Ts : List Jvm.Cond} {own : String} {D : va_G} {cy : ClassId × ClassId} {n : Nat} {sh : Nat → Sh} {ad : Nat → Nat} {A : Nat → Prop} {H0 : Heap} {σ σ' σ1 : Hp}
theorem tope {x y : Int32} (h : y = x) (k : W p l e R s m args below meth c H locs cells slots Q (F0 m pc ls (.int y :: rest))) : W p l e R s m args below meth c H locs cells slots Q (F0 m pc ls (.int x :: rest)) := by subst h; exact k
theorem topel {x y : Int64} (h : y = x) (k : W p l e R s m args below meth c H locs cells slots Q (F0 m pc ls (.long y :: rest))) : W p l e R s m args below meth c H locs cells slots Q (F0 m pc ls (.long x :: rest)) := by subst h; exact k
theorem r_iretP {r v : Int32} (hC : Cx p m c cc nL s args Ts own D cy) (hr : meth.sig.returnType = some .int) (hlocks : meth.locks = false) (h : some v = some r) (hW : Wd D cy n sh ad A s.heap σ H locs) (hdg : decode cc pc = .ok (.ireturn, 1)) : W p l e R s m args below meth c H locs 0 0 (MQ below (va_Qi (fun (r' : Int32) (_ : Unit) => r' = r) (fun _ => Wq D cy n sh ad A σ) A) args s 0 0 A) (F0 m pc ls [.int v]) := by
  cases h; exact r_iret hC hr hlocks hW hdg
theorem r_zretP {r v : Int32} (hz : v = 0 ∨ v = 1) (hC : Cx p m c cc nL s args Ts own D cy) (hr : meth.sig.returnType = some .boolean) (hlocks : meth.locks = false) (h : some v = some r) (hW : Wd D cy n sh ad A s.heap σ H locs) (hdg : decode cc pc = .ok (.ireturn, 1)) : W p l e R s m args below meth c H locs 0 0 (MQ below (va_Qi (fun (r' : Int32) (_ : Unit) => r' = r) (fun _ => Wq D cy n sh ad A σ) A) args s 0 0 A) (F0 m pc ls [.int v]) := by
  cases h; exact r_zret hz hC hr hlocks hW hdg
theorem r_lretP {r v : Int64} (hC : Cx p m c cc nL s args Ts own D cy) (hr : meth.sig.returnType = some .long) (hlocks : meth.locks = false) (h : some v = some r) (hW : Wd D cy n sh ad A s.heap σ H locs) (hdg : decode cc pc = .ok (.lreturn, 1)) : W p l e R s m args below meth c H locs 0 0 (MQ below (va_Ql (fun (r' : Int64) (_ : Unit) => r' = r) (fun _ => Wq D cy n sh ad A σ) A) args s 0 0 A) (F0 m pc ls [.long v]) := by
  cases h; exact r_lret hC hr hlocks hW hdg
theorem r_iretW {r v : Int32} (hC : Cx p m c cc nL s args Ts own D cy) (hr : meth.sig.returnType = some .int) (hlocks : meth.locks = false) (h : some (v, σ1) = some (r, σ')) (hW : Wd D cy n sh ad A s.heap σ1 H locs) (hdg : decode cc pc = .ok (.ireturn, 1)) : W p l e R s m args below meth c H locs 0 0 (MQ below (va_Qi (fun (r' : Int32) (_ : Unit) => r' = r) (fun _ => Wq D cy n sh ad A σ') A) args s 0 0 A) (F0 m pc ls [.int v]) := by
  cases h; exact r_iret hC hr hlocks hW hdg
theorem r_zretW {r v : Int32} (hz : v = 0 ∨ v = 1) (hC : Cx p m c cc nL s args Ts own D cy) (hr : meth.sig.returnType = some .boolean) (hlocks : meth.locks = false) (h : some (v, σ1) = some (r, σ')) (hW : Wd D cy n sh ad A s.heap σ1 H locs) (hdg : decode cc pc = .ok (.ireturn, 1)) : W p l e R s m args below meth c H locs 0 0 (MQ below (va_Qi (fun (r' : Int32) (_ : Unit) => r' = r) (fun _ => Wq D cy n sh ad A σ') A) args s 0 0 A) (F0 m pc ls [.int v]) := by
  cases h; exact r_zret hz hC hr hlocks hW hdg
theorem r_lretW {r v : Int64} (hC : Cx p m c cc nL s args Ts own D cy) (hr : meth.sig.returnType = some .long) (hlocks : meth.locks = false) (h : some (v, σ1) = some (r, σ')) (hW : Wd D cy n sh ad A s.heap σ1 H locs) (hdg : decode cc pc = .ok (.lreturn, 1)) : W p l e R s m args below meth c H locs 0 0 (MQ below (va_Ql (fun (r' : Int64) (_ : Unit) => r' = r) (fun _ => Wq D cy n sh ad A σ') A) args s 0 0 A) (F0 m pc ls [.long v]) := by
  cases h; exact r_lret hC hr hlocks hW hdg
theorem r_vretW (hC : Cx p m c cc nL s args Ts own D cy) (hr : meth.sig.returnType = none) (hlocks : meth.locks = false) (h : some σ1 = some σ') (hW : Wd D cy n sh ad A s.heap σ1 H locs) (hdg : decode cc pc = .ok (.return_, 1)) : W p l e R s m args below meth c H locs 0 0 (MQ below (va_Qv (fun (_ : Unit) => True) (fun _ => Wq D cy n sh ad A σ') A) args s 0 0 A) (F0 m pc ls []) := by
  cases h; exact r_vret hC hr hlocks hW hdg
end RX
abbrev Gi (p : Program) (l : Launch) (e : Env) (ws : List Jvm.Cond) (rm : Room) (s : State) (m : MethodId) (as : List Value) (below : List Frame) (meth : Method) (c : Code) (D : va_G) (cy : ClassId × ClassId) (n : Nat) (sh : Nat → Sh) (ad : Nat → Nat) (A : Nat → Prop) (r : Int32) (σ' : Hp) (H : Heap) (locs : List Loc) (g : JFrame) : Prop :=
  W p l e (headSpec ws rm).room s m as.toArray below meth c H locs 0 0 (MQ below (va_Qi (fun (r' : Int32) (_ : Unit) => r' = r) (fun _ => Wq D cy n sh ad A σ') A) as.toArray s 0 0 A) g
abbrev Gl (p : Program) (l : Launch) (e : Env) (ws : List Jvm.Cond) (rm : Room) (s : State) (m : MethodId) (as : List Value) (below : List Frame) (meth : Method) (c : Code) (D : va_G) (cy : ClassId × ClassId) (n : Nat) (sh : Nat → Sh) (ad : Nat → Nat) (A : Nat → Prop) (r : Int64) (σ' : Hp) (H : Heap) (locs : List Loc) (g : JFrame) : Prop :=
  W p l e (headSpec ws rm).room s m as.toArray below meth c H locs 0 0 (MQ below (va_Ql (fun (r' : Int64) (_ : Unit) => r' = r) (fun _ => Wq D cy n sh ad A σ') A) as.toArray s 0 0 A) g
abbrev Gv (p : Program) (l : Launch) (e : Env) (ws : List Jvm.Cond) (rm : Room) (s : State) (m : MethodId) (as : List Value) (below : List Frame) (meth : Method) (c : Code) (D : va_G) (cy : ClassId × ClassId) (n : Nat) (sh : Nat → Sh) (ad : Nat → Nat) (A : Nat → Prop) (σ' : Hp) (H : Heap) (locs : List Loc) (g : JFrame) : Prop :=
  W p l e (headSpec ws rm).room s m as.toArray below meth c H locs 0 0 (MQ below (va_Qv (fun (_ : Unit) => True) (fun _ => Wq D cy n sh ad A σ') A) as.toArray s 0 0 A) g
def b2 {α β γ : Type} (o : Option (α × β)) (f : α → β → Option γ) : Option γ := match o with
  | none => none
  | some q => f q.1 q.2
theorem ob {α β γ : Type} {o : Option (α × β)} {f : α → β → Option γ} {r : γ} (h : b2 o f = some r) : ∃ a b, o = some (a, b) ∧ f a b = some r := by
  cases o with
  | none => cases h
  | some y => exact ⟨y.1, y.2, rfl, h⟩
theorem NL.at {s : State} (h : NL s) {w : Jvm.Cond} (hw : w ∈ tables_1) (hn : nst w = true) : va_Nw w s := h w hw hn
theorem ti_ne {x y : Int32} (h : ¬ x = y) : x.toInt ≠ y.toInt := fun q => h (Int32.toInt_inj.mp q)
theorem ti_0 : (0 : Int32).toInt = 0 := rfl
theorem ti_1 : (1 : Int32).toInt = 1 := rfl
theorem ti_2 : (2 : Int32).toInt = 2 := rfl
theorem ti_3 : (3 : Int32).toInt = 3 := rfl
theorem ti_4 : (4 : Int32).toInt = 4 := rfl
