theorem lr1 {X1 R : Type} (F : (X1 → Option R) → (X1 → Option R)) (x1 : Nat → X1) (n : Nat) (r : Option R) (hs : ∀ i, i < n → ∀ k, F k (x1 i) = k (x1 (i + 1))) (he : ∀ k, F k (x1 n) = r) : ∀ f, n < f → loopG (fun _ => none) F f (x1 0) = r := by
  have key : ∀ d i f, n = i + d → d < f → loopG (fun _ => none) F f (x1 i) = r := by
    intro d
    induction d with
    | zero =>
      intro i f h1 h2
      obtain ⟨f, rfl⟩ : ∃ g, f = g + 1 := ⟨f - 1, by omega⟩
      obtain rfl : n = i := by omega
      exact he _
    | succ d ih =>
      intro i f h1 h2
      obtain ⟨f, rfl⟩ : ∃ g, f = g + 1 := ⟨f - 1, by omega⟩
      exact (hs i (by omega) _).trans (ih (i + 1) f (by omega) (by omega))
  intro f hf
  exact key n 0 f (by omega) hf
theorem li1 {X1 R : Type} (F : (X1 → Option R) → (X1 → Option R)) (I : Nat → X1 → Prop) (Post : R → Prop) (n : Nat) (hs : ∀ i (x1 : X1), i < n → I i x1 → (∃ r, Post r ∧ ∀ k, F k x1 = some r) ∨ ∃ (x1' : X1), I (i + 1) x1' ∧ ∀ k, F k x1 = k x1') (he : ∀ (x1 : X1), I n x1 → ∃ r, Post r ∧ ∀ k, F k x1 = some r) : ∀ f (x1 : X1), n < f → I 0 x1 → ∃ r, loopG (fun _ => none) F f x1 = some r ∧ Post r := by
  have key : ∀ d i f (x1 : X1), n = i + d → d < f → I i x1 → ∃ r, loopG (fun _ => none) F f x1 = some r ∧ Post r := by
    intro d
    induction d with
    | zero =>
      intro i f x1 h1 h2 h3
      obtain ⟨f, rfl⟩ : ∃ g, f = g + 1 := ⟨f - 1, by omega⟩
      obtain rfl : n = i := by omega
      obtain ⟨r, hr, hk⟩ := he x1 h3
      exact ⟨r, hk _, hr⟩
    | succ d ih =>
      intro i f x1 h1 h2 h3
      obtain ⟨f, rfl⟩ : ∃ g, f = g + 1 := ⟨f - 1, by omega⟩
      rcases hs i x1 (by omega) h3 with ⟨r, hr, hk⟩ | ⟨x1', h4, hk⟩
      · exact ⟨r, hk _, hr⟩
      · obtain ⟨r, hr, hp⟩ := ih (i + 1) f x1' (by omega) (by omega) h4
        exact ⟨r, (hk _).trans hr, hp⟩
  intro f x1 hf h
  exact key n 0 f x1 (by omega) hf h
theorem lr2 {X1 X2 R : Type} (F : (X1 → X2 → Option R) → (X1 → X2 → Option R)) (x1 : Nat → X1) (x2 : Nat → X2) (n : Nat) (r : Option R) (hs : ∀ i, i < n → ∀ k, F k (x1 i) (x2 i) = k (x1 (i + 1)) (x2 (i + 1))) (he : ∀ k, F k (x1 n) (x2 n) = r) : ∀ f, n < f → loopG (fun _ _ => none) F f (x1 0) (x2 0) = r := by
  have key : ∀ d i f, n = i + d → d < f → loopG (fun _ _ => none) F f (x1 i) (x2 i) = r := by
    intro d
    induction d with
    | zero =>
      intro i f h1 h2
      obtain ⟨f, rfl⟩ : ∃ g, f = g + 1 := ⟨f - 1, by omega⟩
      obtain rfl : n = i := by omega
      exact he _
    | succ d ih =>
      intro i f h1 h2
      obtain ⟨f, rfl⟩ : ∃ g, f = g + 1 := ⟨f - 1, by omega⟩
      exact (hs i (by omega) _).trans (ih (i + 1) f (by omega) (by omega))
  intro f hf
  exact key n 0 f (by omega) hf
theorem li2 {X1 X2 R : Type} (F : (X1 → X2 → Option R) → (X1 → X2 → Option R)) (I : Nat → X1 → X2 → Prop) (Post : R → Prop) (n : Nat) (hs : ∀ i (x1 : X1) (x2 : X2), i < n → I i x1 x2 → (∃ r, Post r ∧ ∀ k, F k x1 x2 = some r) ∨ ∃ (x1' : X1) (x2' : X2), I (i + 1) x1' x2' ∧ ∀ k, F k x1 x2 = k x1' x2') (he : ∀ (x1 : X1) (x2 : X2), I n x1 x2 → ∃ r, Post r ∧ ∀ k, F k x1 x2 = some r) : ∀ f (x1 : X1) (x2 : X2), n < f → I 0 x1 x2 → ∃ r, loopG (fun _ _ => none) F f x1 x2 = some r ∧ Post r := by
  have key : ∀ d i f (x1 : X1) (x2 : X2), n = i + d → d < f → I i x1 x2 → ∃ r, loopG (fun _ _ => none) F f x1 x2 = some r ∧ Post r := by
    intro d
    induction d with
    | zero =>
      intro i f x1 x2 h1 h2 h3
      obtain ⟨f, rfl⟩ : ∃ g, f = g + 1 := ⟨f - 1, by omega⟩
      obtain rfl : n = i := by omega
      obtain ⟨r, hr, hk⟩ := he x1 x2 h3
      exact ⟨r, hk _, hr⟩
    | succ d ih =>
      intro i f x1 x2 h1 h2 h3
      obtain ⟨f, rfl⟩ : ∃ g, f = g + 1 := ⟨f - 1, by omega⟩
      rcases hs i x1 x2 (by omega) h3 with ⟨r, hr, hk⟩ | ⟨x1', x2', h4, hk⟩
      · exact ⟨r, hk _, hr⟩
      · obtain ⟨r, hr, hp⟩ := ih (i + 1) f x1' x2' (by omega) (by omega) h4
        exact ⟨r, (hk _).trans hr, hp⟩
  intro f x1 x2 hf h
  exact key n 0 f x1 x2 (by omega) hf h
theorem lr3 {X1 X2 X3 R : Type} (F : (X1 → X2 → X3 → Option R) → (X1 → X2 → X3 → Option R)) (x1 : Nat → X1) (x2 : Nat → X2) (x3 : Nat → X3) (n : Nat) (r : Option R) (hs : ∀ i, i < n → ∀ k, F k (x1 i) (x2 i) (x3 i) = k (x1 (i + 1)) (x2 (i + 1)) (x3 (i + 1))) (he : ∀ k, F k (x1 n) (x2 n) (x3 n) = r) : ∀ f, n < f → loopG (fun _ _ _ => none) F f (x1 0) (x2 0) (x3 0) = r := by
  have key : ∀ d i f, n = i + d → d < f → loopG (fun _ _ _ => none) F f (x1 i) (x2 i) (x3 i) = r := by
    intro d
    induction d with
    | zero =>
      intro i f h1 h2
      obtain ⟨f, rfl⟩ : ∃ g, f = g + 1 := ⟨f - 1, by omega⟩
      obtain rfl : n = i := by omega
      exact he _
    | succ d ih =>
      intro i f h1 h2
      obtain ⟨f, rfl⟩ : ∃ g, f = g + 1 := ⟨f - 1, by omega⟩
      exact (hs i (by omega) _).trans (ih (i + 1) f (by omega) (by omega))
  intro f hf
  exact key n 0 f (by omega) hf
theorem li3 {X1 X2 X3 R : Type} (F : (X1 → X2 → X3 → Option R) → (X1 → X2 → X3 → Option R)) (I : Nat → X1 → X2 → X3 → Prop) (Post : R → Prop) (n : Nat) (hs : ∀ i (x1 : X1) (x2 : X2) (x3 : X3), i < n → I i x1 x2 x3 → (∃ r, Post r ∧ ∀ k, F k x1 x2 x3 = some r) ∨ ∃ (x1' : X1) (x2' : X2) (x3' : X3), I (i + 1) x1' x2' x3' ∧ ∀ k, F k x1 x2 x3 = k x1' x2' x3') (he : ∀ (x1 : X1) (x2 : X2) (x3 : X3), I n x1 x2 x3 → ∃ r, Post r ∧ ∀ k, F k x1 x2 x3 = some r) : ∀ f (x1 : X1) (x2 : X2) (x3 : X3), n < f → I 0 x1 x2 x3 → ∃ r, loopG (fun _ _ _ => none) F f x1 x2 x3 = some r ∧ Post r := by
  have key : ∀ d i f (x1 : X1) (x2 : X2) (x3 : X3), n = i + d → d < f → I i x1 x2 x3 → ∃ r, loopG (fun _ _ _ => none) F f x1 x2 x3 = some r ∧ Post r := by
    intro d
    induction d with
    | zero =>
      intro i f x1 x2 x3 h1 h2 h3
      obtain ⟨f, rfl⟩ : ∃ g, f = g + 1 := ⟨f - 1, by omega⟩
      obtain rfl : n = i := by omega
      obtain ⟨r, hr, hk⟩ := he x1 x2 x3 h3
      exact ⟨r, hk _, hr⟩
    | succ d ih =>
      intro i f x1 x2 x3 h1 h2 h3
      obtain ⟨f, rfl⟩ : ∃ g, f = g + 1 := ⟨f - 1, by omega⟩
      rcases hs i x1 x2 x3 (by omega) h3 with ⟨r, hr, hk⟩ | ⟨x1', x2', x3', h4, hk⟩
      · exact ⟨r, hk _, hr⟩
      · obtain ⟨r, hr, hp⟩ := ih (i + 1) f x1' x2' x3' (by omega) (by omega) h4
        exact ⟨r, (hk _).trans hr, hp⟩
  intro f x1 x2 x3 hf h
  exact key n 0 f x1 x2 x3 (by omega) hf h
theorem lr4 {X1 X2 X3 X4 R : Type} (F : (X1 → X2 → X3 → X4 → Option R) → (X1 → X2 → X3 → X4 → Option R)) (x1 : Nat → X1) (x2 : Nat → X2) (x3 : Nat → X3) (x4 : Nat → X4) (n : Nat) (r : Option R) (hs : ∀ i, i < n → ∀ k, F k (x1 i) (x2 i) (x3 i) (x4 i) = k (x1 (i + 1)) (x2 (i + 1)) (x3 (i + 1)) (x4 (i + 1))) (he : ∀ k, F k (x1 n) (x2 n) (x3 n) (x4 n) = r) : ∀ f, n < f → loopG (fun _ _ _ _ => none) F f (x1 0) (x2 0) (x3 0) (x4 0) = r := by
  have key : ∀ d i f, n = i + d → d < f → loopG (fun _ _ _ _ => none) F f (x1 i) (x2 i) (x3 i) (x4 i) = r := by
    intro d
    induction d with
    | zero =>
      intro i f h1 h2
      obtain ⟨f, rfl⟩ : ∃ g, f = g + 1 := ⟨f - 1, by omega⟩
      obtain rfl : n = i := by omega
      exact he _
    | succ d ih =>
      intro i f h1 h2
      obtain ⟨f, rfl⟩ : ∃ g, f = g + 1 := ⟨f - 1, by omega⟩
      exact (hs i (by omega) _).trans (ih (i + 1) f (by omega) (by omega))
  intro f hf
  exact key n 0 f (by omega) hf
theorem li4 {X1 X2 X3 X4 R : Type} (F : (X1 → X2 → X3 → X4 → Option R) → (X1 → X2 → X3 → X4 → Option R)) (I : Nat → X1 → X2 → X3 → X4 → Prop) (Post : R → Prop) (n : Nat) (hs : ∀ i (x1 : X1) (x2 : X2) (x3 : X3) (x4 : X4), i < n → I i x1 x2 x3 x4 → (∃ r, Post r ∧ ∀ k, F k x1 x2 x3 x4 = some r) ∨ ∃ (x1' : X1) (x2' : X2) (x3' : X3) (x4' : X4), I (i + 1) x1' x2' x3' x4' ∧ ∀ k, F k x1 x2 x3 x4 = k x1' x2' x3' x4') (he : ∀ (x1 : X1) (x2 : X2) (x3 : X3) (x4 : X4), I n x1 x2 x3 x4 → ∃ r, Post r ∧ ∀ k, F k x1 x2 x3 x4 = some r) : ∀ f (x1 : X1) (x2 : X2) (x3 : X3) (x4 : X4), n < f → I 0 x1 x2 x3 x4 → ∃ r, loopG (fun _ _ _ _ => none) F f x1 x2 x3 x4 = some r ∧ Post r := by
  have key : ∀ d i f (x1 : X1) (x2 : X2) (x3 : X3) (x4 : X4), n = i + d → d < f → I i x1 x2 x3 x4 → ∃ r, loopG (fun _ _ _ _ => none) F f x1 x2 x3 x4 = some r ∧ Post r := by
    intro d
    induction d with
    | zero =>
      intro i f x1 x2 x3 x4 h1 h2 h3
      obtain ⟨f, rfl⟩ : ∃ g, f = g + 1 := ⟨f - 1, by omega⟩
      obtain rfl : n = i := by omega
      obtain ⟨r, hr, hk⟩ := he x1 x2 x3 x4 h3
      exact ⟨r, hk _, hr⟩
    | succ d ih =>
      intro i f x1 x2 x3 x4 h1 h2 h3
      obtain ⟨f, rfl⟩ : ∃ g, f = g + 1 := ⟨f - 1, by omega⟩
      rcases hs i x1 x2 x3 x4 (by omega) h3 with ⟨r, hr, hk⟩ | ⟨x1', x2', x3', x4', h4, hk⟩
      · exact ⟨r, hk _, hr⟩
      · obtain ⟨r, hr, hp⟩ := ih (i + 1) f x1' x2' x3' x4' (by omega) (by omega) h4
        exact ⟨r, (hk _).trans hr, hp⟩
  intro f x1 x2 x3 x4 hf h
  exact key n 0 f x1 x2 x3 x4 (by omega) hf h
theorem lr5 {X1 X2 X3 X4 X5 R : Type} (F : (X1 → X2 → X3 → X4 → X5 → Option R) → (X1 → X2 → X3 → X4 → X5 → Option R)) (x1 : Nat → X1) (x2 : Nat → X2) (x3 : Nat → X3) (x4 : Nat → X4) (x5 : Nat → X5) (n : Nat) (r : Option R) (hs : ∀ i, i < n → ∀ k, F k (x1 i) (x2 i) (x3 i) (x4 i) (x5 i) = k (x1 (i + 1)) (x2 (i + 1)) (x3 (i + 1)) (x4 (i + 1)) (x5 (i + 1))) (he : ∀ k, F k (x1 n) (x2 n) (x3 n) (x4 n) (x5 n) = r) : ∀ f, n < f → loopG (fun _ _ _ _ _ => none) F f (x1 0) (x2 0) (x3 0) (x4 0) (x5 0) = r := by
  have key : ∀ d i f, n = i + d → d < f → loopG (fun _ _ _ _ _ => none) F f (x1 i) (x2 i) (x3 i) (x4 i) (x5 i) = r := by
    intro d
    induction d with
    | zero =>
      intro i f h1 h2
      obtain ⟨f, rfl⟩ : ∃ g, f = g + 1 := ⟨f - 1, by omega⟩
      obtain rfl : n = i := by omega
      exact he _
    | succ d ih =>
      intro i f h1 h2
      obtain ⟨f, rfl⟩ : ∃ g, f = g + 1 := ⟨f - 1, by omega⟩
      exact (hs i (by omega) _).trans (ih (i + 1) f (by omega) (by omega))
  intro f hf
  exact key n 0 f (by omega) hf
theorem li5 {X1 X2 X3 X4 X5 R : Type} (F : (X1 → X2 → X3 → X4 → X5 → Option R) → (X1 → X2 → X3 → X4 → X5 → Option R)) (I : Nat → X1 → X2 → X3 → X4 → X5 → Prop) (Post : R → Prop) (n : Nat) (hs : ∀ i (x1 : X1) (x2 : X2) (x3 : X3) (x4 : X4) (x5 : X5), i < n → I i x1 x2 x3 x4 x5 → (∃ r, Post r ∧ ∀ k, F k x1 x2 x3 x4 x5 = some r) ∨ ∃ (x1' : X1) (x2' : X2) (x3' : X3) (x4' : X4) (x5' : X5), I (i + 1) x1' x2' x3' x4' x5' ∧ ∀ k, F k x1 x2 x3 x4 x5 = k x1' x2' x3' x4' x5') (he : ∀ (x1 : X1) (x2 : X2) (x3 : X3) (x4 : X4) (x5 : X5), I n x1 x2 x3 x4 x5 → ∃ r, Post r ∧ ∀ k, F k x1 x2 x3 x4 x5 = some r) : ∀ f (x1 : X1) (x2 : X2) (x3 : X3) (x4 : X4) (x5 : X5), n < f → I 0 x1 x2 x3 x4 x5 → ∃ r, loopG (fun _ _ _ _ _ => none) F f x1 x2 x3 x4 x5 = some r ∧ Post r := by
  have key : ∀ d i f (x1 : X1) (x2 : X2) (x3 : X3) (x4 : X4) (x5 : X5), n = i + d → d < f → I i x1 x2 x3 x4 x5 → ∃ r, loopG (fun _ _ _ _ _ => none) F f x1 x2 x3 x4 x5 = some r ∧ Post r := by
    intro d
    induction d with
    | zero =>
      intro i f x1 x2 x3 x4 x5 h1 h2 h3
      obtain ⟨f, rfl⟩ : ∃ g, f = g + 1 := ⟨f - 1, by omega⟩
      obtain rfl : n = i := by omega
      obtain ⟨r, hr, hk⟩ := he x1 x2 x3 x4 x5 h3
      exact ⟨r, hk _, hr⟩
    | succ d ih =>
      intro i f x1 x2 x3 x4 x5 h1 h2 h3
      obtain ⟨f, rfl⟩ : ∃ g, f = g + 1 := ⟨f - 1, by omega⟩
      rcases hs i x1 x2 x3 x4 x5 (by omega) h3 with ⟨r, hr, hk⟩ | ⟨x1', x2', x3', x4', x5', h4, hk⟩
      · exact ⟨r, hk _, hr⟩
      · obtain ⟨r, hr, hp⟩ := ih (i + 1) f x1' x2' x3' x4' x5' (by omega) (by omega) h4
        exact ⟨r, (hk _).trans hr, hp⟩
  intro f x1 x2 x3 x4 x5 hf h
  exact key n 0 f x1 x2 x3 x4 x5 (by omega) hf h
theorem lr6 {X1 X2 X3 X4 X5 X6 R : Type} (F : (X1 → X2 → X3 → X4 → X5 → X6 → Option R) → (X1 → X2 → X3 → X4 → X5 → X6 → Option R)) (x1 : Nat → X1) (x2 : Nat → X2) (x3 : Nat → X3) (x4 : Nat → X4) (x5 : Nat → X5) (x6 : Nat → X6) (n : Nat) (r : Option R) (hs : ∀ i, i < n → ∀ k, F k (x1 i) (x2 i) (x3 i) (x4 i) (x5 i) (x6 i) = k (x1 (i + 1)) (x2 (i + 1)) (x3 (i + 1)) (x4 (i + 1)) (x5 (i + 1)) (x6 (i + 1))) (he : ∀ k, F k (x1 n) (x2 n) (x3 n) (x4 n) (x5 n) (x6 n) = r) : ∀ f, n < f → loopG (fun _ _ _ _ _ _ => none) F f (x1 0) (x2 0) (x3 0) (x4 0) (x5 0) (x6 0) = r := by
  have key : ∀ d i f, n = i + d → d < f → loopG (fun _ _ _ _ _ _ => none) F f (x1 i) (x2 i) (x3 i) (x4 i) (x5 i) (x6 i) = r := by
    intro d
    induction d with
    | zero =>
      intro i f h1 h2
      obtain ⟨f, rfl⟩ : ∃ g, f = g + 1 := ⟨f - 1, by omega⟩
      obtain rfl : n = i := by omega
      exact he _
    | succ d ih =>
      intro i f h1 h2
      obtain ⟨f, rfl⟩ : ∃ g, f = g + 1 := ⟨f - 1, by omega⟩
      exact (hs i (by omega) _).trans (ih (i + 1) f (by omega) (by omega))
  intro f hf
  exact key n 0 f (by omega) hf
theorem li6 {X1 X2 X3 X4 X5 X6 R : Type} (F : (X1 → X2 → X3 → X4 → X5 → X6 → Option R) → (X1 → X2 → X3 → X4 → X5 → X6 → Option R)) (I : Nat → X1 → X2 → X3 → X4 → X5 → X6 → Prop) (Post : R → Prop) (n : Nat) (hs : ∀ i (x1 : X1) (x2 : X2) (x3 : X3) (x4 : X4) (x5 : X5) (x6 : X6), i < n → I i x1 x2 x3 x4 x5 x6 → (∃ r, Post r ∧ ∀ k, F k x1 x2 x3 x4 x5 x6 = some r) ∨ ∃ (x1' : X1) (x2' : X2) (x3' : X3) (x4' : X4) (x5' : X5) (x6' : X6), I (i + 1) x1' x2' x3' x4' x5' x6' ∧ ∀ k, F k x1 x2 x3 x4 x5 x6 = k x1' x2' x3' x4' x5' x6') (he : ∀ (x1 : X1) (x2 : X2) (x3 : X3) (x4 : X4) (x5 : X5) (x6 : X6), I n x1 x2 x3 x4 x5 x6 → ∃ r, Post r ∧ ∀ k, F k x1 x2 x3 x4 x5 x6 = some r) : ∀ f (x1 : X1) (x2 : X2) (x3 : X3) (x4 : X4) (x5 : X5) (x6 : X6), n < f → I 0 x1 x2 x3 x4 x5 x6 → ∃ r, loopG (fun _ _ _ _ _ _ => none) F f x1 x2 x3 x4 x5 x6 = some r ∧ Post r := by
  have key : ∀ d i f (x1 : X1) (x2 : X2) (x3 : X3) (x4 : X4) (x5 : X5) (x6 : X6), n = i + d → d < f → I i x1 x2 x3 x4 x5 x6 → ∃ r, loopG (fun _ _ _ _ _ _ => none) F f x1 x2 x3 x4 x5 x6 = some r ∧ Post r := by
    intro d
    induction d with
    | zero =>
      intro i f x1 x2 x3 x4 x5 x6 h1 h2 h3
      obtain ⟨f, rfl⟩ : ∃ g, f = g + 1 := ⟨f - 1, by omega⟩
      obtain rfl : n = i := by omega
      obtain ⟨r, hr, hk⟩ := he x1 x2 x3 x4 x5 x6 h3
      exact ⟨r, hk _, hr⟩
    | succ d ih =>
      intro i f x1 x2 x3 x4 x5 x6 h1 h2 h3
      obtain ⟨f, rfl⟩ : ∃ g, f = g + 1 := ⟨f - 1, by omega⟩
      rcases hs i x1 x2 x3 x4 x5 x6 (by omega) h3 with ⟨r, hr, hk⟩ | ⟨x1', x2', x3', x4', x5', x6', h4, hk⟩
      · exact ⟨r, hk _, hr⟩
      · obtain ⟨r, hr, hp⟩ := ih (i + 1) f x1' x2' x3' x4' x5' x6' (by omega) (by omega) h4
        exact ⟨r, (hk _).trans hr, hp⟩
  intro f x1 x2 x3 x4 x5 x6 hf h
  exact key n 0 f x1 x2 x3 x4 x5 x6 (by omega) hf h
theorem lr7 {X1 X2 X3 X4 X5 X6 X7 R : Type} (F : (X1 → X2 → X3 → X4 → X5 → X6 → X7 → Option R) → (X1 → X2 → X3 → X4 → X5 → X6 → X7 → Option R)) (x1 : Nat → X1) (x2 : Nat → X2) (x3 : Nat → X3) (x4 : Nat → X4) (x5 : Nat → X5) (x6 : Nat → X6) (x7 : Nat → X7) (n : Nat) (r : Option R) (hs : ∀ i, i < n → ∀ k, F k (x1 i) (x2 i) (x3 i) (x4 i) (x5 i) (x6 i) (x7 i) = k (x1 (i + 1)) (x2 (i + 1)) (x3 (i + 1)) (x4 (i + 1)) (x5 (i + 1)) (x6 (i + 1)) (x7 (i + 1))) (he : ∀ k, F k (x1 n) (x2 n) (x3 n) (x4 n) (x5 n) (x6 n) (x7 n) = r) : ∀ f, n < f → loopG (fun _ _ _ _ _ _ _ => none) F f (x1 0) (x2 0) (x3 0) (x4 0) (x5 0) (x6 0) (x7 0) = r := by
  have key : ∀ d i f, n = i + d → d < f → loopG (fun _ _ _ _ _ _ _ => none) F f (x1 i) (x2 i) (x3 i) (x4 i) (x5 i) (x6 i) (x7 i) = r := by
    intro d
    induction d with
    | zero =>
      intro i f h1 h2
      obtain ⟨f, rfl⟩ : ∃ g, f = g + 1 := ⟨f - 1, by omega⟩
      obtain rfl : n = i := by omega
      exact he _
    | succ d ih =>
      intro i f h1 h2
      obtain ⟨f, rfl⟩ : ∃ g, f = g + 1 := ⟨f - 1, by omega⟩
      exact (hs i (by omega) _).trans (ih (i + 1) f (by omega) (by omega))
  intro f hf
  exact key n 0 f (by omega) hf
theorem li7 {X1 X2 X3 X4 X5 X6 X7 R : Type} (F : (X1 → X2 → X3 → X4 → X5 → X6 → X7 → Option R) → (X1 → X2 → X3 → X4 → X5 → X6 → X7 → Option R)) (I : Nat → X1 → X2 → X3 → X4 → X5 → X6 → X7 → Prop) (Post : R → Prop) (n : Nat) (hs : ∀ i (x1 : X1) (x2 : X2) (x3 : X3) (x4 : X4) (x5 : X5) (x6 : X6) (x7 : X7), i < n → I i x1 x2 x3 x4 x5 x6 x7 → (∃ r, Post r ∧ ∀ k, F k x1 x2 x3 x4 x5 x6 x7 = some r) ∨ ∃ (x1' : X1) (x2' : X2) (x3' : X3) (x4' : X4) (x5' : X5) (x6' : X6) (x7' : X7), I (i + 1) x1' x2' x3' x4' x5' x6' x7' ∧ ∀ k, F k x1 x2 x3 x4 x5 x6 x7 = k x1' x2' x3' x4' x5' x6' x7') (he : ∀ (x1 : X1) (x2 : X2) (x3 : X3) (x4 : X4) (x5 : X5) (x6 : X6) (x7 : X7), I n x1 x2 x3 x4 x5 x6 x7 → ∃ r, Post r ∧ ∀ k, F k x1 x2 x3 x4 x5 x6 x7 = some r) : ∀ f (x1 : X1) (x2 : X2) (x3 : X3) (x4 : X4) (x5 : X5) (x6 : X6) (x7 : X7), n < f → I 0 x1 x2 x3 x4 x5 x6 x7 → ∃ r, loopG (fun _ _ _ _ _ _ _ => none) F f x1 x2 x3 x4 x5 x6 x7 = some r ∧ Post r := by
  have key : ∀ d i f (x1 : X1) (x2 : X2) (x3 : X3) (x4 : X4) (x5 : X5) (x6 : X6) (x7 : X7), n = i + d → d < f → I i x1 x2 x3 x4 x5 x6 x7 → ∃ r, loopG (fun _ _ _ _ _ _ _ => none) F f x1 x2 x3 x4 x5 x6 x7 = some r ∧ Post r := by
    intro d
    induction d with
    | zero =>
      intro i f x1 x2 x3 x4 x5 x6 x7 h1 h2 h3
      obtain ⟨f, rfl⟩ : ∃ g, f = g + 1 := ⟨f - 1, by omega⟩
      obtain rfl : n = i := by omega
      obtain ⟨r, hr, hk⟩ := he x1 x2 x3 x4 x5 x6 x7 h3
      exact ⟨r, hk _, hr⟩
    | succ d ih =>
      intro i f x1 x2 x3 x4 x5 x6 x7 h1 h2 h3
      obtain ⟨f, rfl⟩ : ∃ g, f = g + 1 := ⟨f - 1, by omega⟩
      rcases hs i x1 x2 x3 x4 x5 x6 x7 (by omega) h3 with ⟨r, hr, hk⟩ | ⟨x1', x2', x3', x4', x5', x6', x7', h4, hk⟩
      · exact ⟨r, hk _, hr⟩
      · obtain ⟨r, hr, hp⟩ := ih (i + 1) f x1' x2' x3' x4' x5' x6' x7' (by omega) (by omega) h4
        exact ⟨r, (hk _).trans hr, hp⟩
  intro f x1 x2 x3 x4 x5 x6 x7 hf h
  exact key n 0 f x1 x2 x3 x4 x5 x6 x7 (by omega) hf h
theorem lr8 {X1 X2 X3 X4 X5 X6 X7 X8 R : Type} (F : (X1 → X2 → X3 → X4 → X5 → X6 → X7 → X8 → Option R) → (X1 → X2 → X3 → X4 → X5 → X6 → X7 → X8 → Option R)) (x1 : Nat → X1) (x2 : Nat → X2) (x3 : Nat → X3) (x4 : Nat → X4) (x5 : Nat → X5) (x6 : Nat → X6) (x7 : Nat → X7) (x8 : Nat → X8) (n : Nat) (r : Option R) (hs : ∀ i, i < n → ∀ k, F k (x1 i) (x2 i) (x3 i) (x4 i) (x5 i) (x6 i) (x7 i) (x8 i) = k (x1 (i + 1)) (x2 (i + 1)) (x3 (i + 1)) (x4 (i + 1)) (x5 (i + 1)) (x6 (i + 1)) (x7 (i + 1)) (x8 (i + 1))) (he : ∀ k, F k (x1 n) (x2 n) (x3 n) (x4 n) (x5 n) (x6 n) (x7 n) (x8 n) = r) : ∀ f, n < f → loopG (fun _ _ _ _ _ _ _ _ => none) F f (x1 0) (x2 0) (x3 0) (x4 0) (x5 0) (x6 0) (x7 0) (x8 0) = r := by
  have key : ∀ d i f, n = i + d → d < f → loopG (fun _ _ _ _ _ _ _ _ => none) F f (x1 i) (x2 i) (x3 i) (x4 i) (x5 i) (x6 i) (x7 i) (x8 i) = r := by
    intro d
    induction d with
    | zero =>
      intro i f h1 h2
      obtain ⟨f, rfl⟩ : ∃ g, f = g + 1 := ⟨f - 1, by omega⟩
      obtain rfl : n = i := by omega
      exact he _
    | succ d ih =>
      intro i f h1 h2
      obtain ⟨f, rfl⟩ : ∃ g, f = g + 1 := ⟨f - 1, by omega⟩
      exact (hs i (by omega) _).trans (ih (i + 1) f (by omega) (by omega))
  intro f hf
  exact key n 0 f (by omega) hf
theorem li8 {X1 X2 X3 X4 X5 X6 X7 X8 R : Type} (F : (X1 → X2 → X3 → X4 → X5 → X6 → X7 → X8 → Option R) → (X1 → X2 → X3 → X4 → X5 → X6 → X7 → X8 → Option R)) (I : Nat → X1 → X2 → X3 → X4 → X5 → X6 → X7 → X8 → Prop) (Post : R → Prop) (n : Nat) (hs : ∀ i (x1 : X1) (x2 : X2) (x3 : X3) (x4 : X4) (x5 : X5) (x6 : X6) (x7 : X7) (x8 : X8), i < n → I i x1 x2 x3 x4 x5 x6 x7 x8 → (∃ r, Post r ∧ ∀ k, F k x1 x2 x3 x4 x5 x6 x7 x8 = some r) ∨ ∃ (x1' : X1) (x2' : X2) (x3' : X3) (x4' : X4) (x5' : X5) (x6' : X6) (x7' : X7) (x8' : X8), I (i + 1) x1' x2' x3' x4' x5' x6' x7' x8' ∧ ∀ k, F k x1 x2 x3 x4 x5 x6 x7 x8 = k x1' x2' x3' x4' x5' x6' x7' x8') (he : ∀ (x1 : X1) (x2 : X2) (x3 : X3) (x4 : X4) (x5 : X5) (x6 : X6) (x7 : X7) (x8 : X8), I n x1 x2 x3 x4 x5 x6 x7 x8 → ∃ r, Post r ∧ ∀ k, F k x1 x2 x3 x4 x5 x6 x7 x8 = some r) : ∀ f (x1 : X1) (x2 : X2) (x3 : X3) (x4 : X4) (x5 : X5) (x6 : X6) (x7 : X7) (x8 : X8), n < f → I 0 x1 x2 x3 x4 x5 x6 x7 x8 → ∃ r, loopG (fun _ _ _ _ _ _ _ _ => none) F f x1 x2 x3 x4 x5 x6 x7 x8 = some r ∧ Post r := by
  have key : ∀ d i f (x1 : X1) (x2 : X2) (x3 : X3) (x4 : X4) (x5 : X5) (x6 : X6) (x7 : X7) (x8 : X8), n = i + d → d < f → I i x1 x2 x3 x4 x5 x6 x7 x8 → ∃ r, loopG (fun _ _ _ _ _ _ _ _ => none) F f x1 x2 x3 x4 x5 x6 x7 x8 = some r ∧ Post r := by
    intro d
    induction d with
    | zero =>
      intro i f x1 x2 x3 x4 x5 x6 x7 x8 h1 h2 h3
      obtain ⟨f, rfl⟩ : ∃ g, f = g + 1 := ⟨f - 1, by omega⟩
      obtain rfl : n = i := by omega
      obtain ⟨r, hr, hk⟩ := he x1 x2 x3 x4 x5 x6 x7 x8 h3
      exact ⟨r, hk _, hr⟩
    | succ d ih =>
      intro i f x1 x2 x3 x4 x5 x6 x7 x8 h1 h2 h3
      obtain ⟨f, rfl⟩ : ∃ g, f = g + 1 := ⟨f - 1, by omega⟩
      rcases hs i x1 x2 x3 x4 x5 x6 x7 x8 (by omega) h3 with ⟨r, hr, hk⟩ | ⟨x1', x2', x3', x4', x5', x6', x7', x8', h4, hk⟩
      · exact ⟨r, hk _, hr⟩
      · obtain ⟨r, hr, hp⟩ := ih (i + 1) f x1' x2' x3' x4' x5' x6' x7' x8' (by omega) (by omega) h4
        exact ⟨r, (hk _).trans hr, hp⟩
  intro f x1 x2 x3 x4 x5 x6 x7 x8 hf h
  exact key n 0 f x1 x2 x3 x4 x5 x6 x7 x8 (by omega) hf h
theorem hs_eq {σ : Hp} {o k : Nat} {v : Int32} : hset σ o k v o k = v := by simp [hset, upd]
theorem hs_o {σ : Hp} {o k a : Nat} {v : Int32} (h : a ≠ o) : hset σ o k v a = σ a := by simp [hset, h]
theorem hs_k {σ : Hp} {o k j : Nat} {v : Int32} (h : j ≠ k) : hset σ o k v o j = σ o j := by simp [hset, upd, h]
theorem hs_ok {σ : Hp} {o k a j : Nat} {v : Int32} : hset σ o k v a j = if a = o ∧ j = k then v else σ a j := by
  by_cases h : a = o
  · subst h
    by_cases h2 : j = k
    · subst h2; simp [hset, upd]
    · simp [hset, upd, h2]
  · simp [hset, h]
theorem fa_lit (n : Nat) : (OfNat.ofNat n : Int32) = nI n := rfl
theorem nI_E {a b : Nat} (ha : a < 2 ^ 31) (hb : b < 2 ^ 31) : (nI a = nI b) = (a = b) := propext (nI_eq ha hb)
theorem nI_L {a b : Nat} (ha : a < 2 ^ 31) (hb : b < 2 ^ 31) : (nI a < nI b) = (a < b) := propext (nI_ltI ha hb)
theorem nI_G {a b : Nat} (ha : a < 2 ^ 31) (hb : b < 2 ^ 31) : (nI a ≤ nI b) = (a ≤ b) := propext (nI_leI ha hb)
theorem gi_in {α : Type} {k n : Nat} {t : Option α} (h : k < n) (hn : n < 2 ^ 31) : gi (nI k) n t = t := if_neg (nI_in h hn)
theorem bnd_e {α β : Type} (x : α) (f : α → β) : bnd x f = f x := rfl
theorem bind_s {α β : Type} (x : α) (f : α → Option β) : Option.bind (some x) f = f x := rfl
theorem b2_s {α β γ : Type} (x : α) (y : β) (f : α → β → Option γ) : b2 (some (x, y)) f = f x y := rfl
theorem zb_0 {α : Type} (t : Option α) : zb (nI 0) t = t := rfl
theorem zb_1 {α : Type} (t : Option α) : zb (nI 1) t = t := rfl
theorem zb_b {α : Type} {k : Nat} (h : k < 2) (t : Option α) : zb (nI k) t = t := by
  rcases (show k = 0 ∨ k = 1 by omega) with rfl | rfl <;> rfl
theorem zb_if {α : Type} (c : Prop) [Decidable c] (t : Option α) : zb (if c then nI 1 else nI 0) t = t := by by_cases h : c <;> simp [h, zb_0, zb_1]
theorem zb_if2 {α : Type} (c : Prop) [Decidable c] (t : Option α) : zb (if c then nI 0 else nI 1) t = t := by by_cases h : c <;> simp [h, zb_0, zb_1]
theorem ofNat_nI (n : Nat) : Int32.ofNat n = nI n := rfl
theorem at_in {a la k : Nat} {σ : Hp} (h : k < la) (hl : la < 2 ^ 31) : t_X6_at a la (nI k) σ = some (σ a k) := by
  unfold t_X6_at
  rw [if_neg (nI_pos (by omega)), if_neg (show ¬ Int32.ofNat la ≤ nI k from nI_ge h hl), gi_in h hl, nI_clamp (by omega)]
theorem put_in {a la k : Nat} {v : Int32} {σ : Hp} (h : k < la) (hl : la < 2 ^ 31) : t_X6_put a la (nI k) v σ = some (hset σ a k v) := by
  unfold t_X6_put
  rw [if_neg (nI_pos (by omega)), if_neg (show ¬ Int32.ofNat la ≤ nI k from nI_ge h hl), gi_in h hl, nI_clamp (by omega)]; rfl
theorem fact_in {o e k : Nat} {σ : Hp} (he : e < 7) (hk : k < 5) : t_X0_fact o (nI e) (nI k) σ = some (σ (o + 2) (e * 5 + k)) := by
  unfold t_X0_fact
  rw [show (5 : Int32) = nI 5 from rfl, pk_mul, nI_add, at_in (by omega) (by omega)]; rfl
theorem setFact_in {o e k : Nat} {v : Int32} {σ : Hp} (he : e < 7) (hk : k < 5) : t_X0_setFact o (nI e) (nI k) v σ = some (hset σ (o + 2) (e * 5 + k) v) := by
  unfold t_X0_setFact
  rw [show (5 : Int32) = nI 5 from rfl, pk_mul, nI_add, put_in (by omega) (by omega)]; rfl
theorem isWhole_in {o e : Nat} {σ : Hp} (he : e < 7) : t_X0_isWhole o (nI e) σ = some (if σ (o + 2) (e * 5 + 4) = nI 0 then nI 1 else nI 0) := by
  unfold t_X0_isWhole
  rw [show (5 : Int32) = nI 5 from rfl, show (4 : Int32) = nI 4 from rfl, pk_mul, nI_add, at_in (by omega) (by omega), bind_s]
  show (if σ (o + 2) (e * 5 + 4) = nI 0 then some (nI 1) else some (nI 0)) = _
  split <;> rfl
theorem isWarmEnough_in {o e : Nat} {σ : Hp} (he : e < 7) : t_X0_isWarmEnough o (nI e) σ = some (if σ (o + 2) (e * 5 + 1) < σ (o + 2) (e * 5 + 0) then nI 0 else nI 1) := by
  unfold t_X0_isWarmEnough
  rw [show (5 : Int32) = nI 5 from rfl, show (1 : Int32) = nI 1 from rfl, show (0 : Int32) = nI 0 from rfl, pk_mul, nI_add, nI_add, at_in (by omega) (by omega), at_in (by omega) (by omega), bind_s, bind_s]
  split <;> rfl

