theorem lr1 {A R : Type} (F : (A → Option R) → (A → Option R)) (a : Nat → A) (n : Nat) (r : Option R) (hs : ∀ i, i < n → ∀ k, F k (a i) = k (a (i + 1))) (he : ∀ k, F k (a n) = r) : ∀ f, n < f → loopG (fun _ => none) F f (a 0) = r := by
  have key : ∀ d i f, n = i + d → d < f → loopG (fun _ => none) F f (a i) = r := by
    intro d
    induction d with
    | zero =>
      intro i f h1 h2
      obtain ⟨f, rfl⟩ : ∃ g, f = g + 1 := ⟨f - 1, by omega⟩
      obtain rfl : n = i := by omega
      exact he _
    | succ d ih =>
      intro i f h1 h2
      obtain ⟨f, rfl⟩ : ∃ g, f = g + 1 := ⟨f - 1, by omega⟩
      exact (hs i (by omega) _).trans (ih (i + 1) f (by omega) (by omega))
  intro f hf
  exact key n 0 f (by omega) hf
theorem li1 {A R : Type} (F : (A → Option R) → (A → Option R)) (I : Nat → A → Prop) (Post : R → Prop) (n : Nat) (hs : ∀ i (a : A), i < n → I i a → (∃ r, Post r ∧ ∀ k, F k a = some r) ∨ ∃ (a' : A), I (i + 1) a' ∧ ∀ k, F k a = k a') (he : ∀ (a : A), I n a → ∃ r, Post r ∧ ∀ k, F k a = some r) : ∀ f (a : A), n < f → I 0 a → ∃ r, loopG (fun _ => none) F f a = some r ∧ Post r := by
  have key : ∀ d i f (a : A), n = i + d → d < f → I i a → ∃ r, loopG (fun _ => none) F f a = some r ∧ Post r := by
    intro d
    induction d with
    | zero =>
      intro i f a h1 h2 h3
      obtain ⟨f, rfl⟩ : ∃ g, f = g + 1 := ⟨f - 1, by omega⟩
      obtain rfl : n = i := by omega
      obtain ⟨r, hr, hk⟩ := he a h3
      exact ⟨r, hk _, hr⟩
    | succ d ih =>
      intro i f a h1 h2 h3
      obtain ⟨f, rfl⟩ : ∃ g, f = g + 1 := ⟨f - 1, by omega⟩
      rcases hs i a (by omega) h3 with ⟨r, hr, hk⟩ | ⟨a', h4, hk⟩
      · exact ⟨r, hk _, hr⟩
      · obtain ⟨r, hr, hp⟩ := ih (i + 1) f a' (by omega) (by omega) h4
        exact ⟨r, (hk _).trans hr, hp⟩
  intro f a hf h
  exact key n 0 f a (by omega) hf h
theorem lr2 {A B R : Type} (F : (A → B → Option R) → (A → B → Option R)) (a : Nat → A) (b : Nat → B) (n : Nat) (r : Option R) (hs : ∀ i, i < n → ∀ k, F k (a i) (b i) = k (a (i + 1)) (b (i + 1))) (he : ∀ k, F k (a n) (b n) = r) : ∀ f, n < f → loopG (fun _ _ => none) F f (a 0) (b 0) = r := by
  have key : ∀ d i f, n = i + d → d < f → loopG (fun _ _ => none) F f (a i) (b i) = r := by
    intro d
    induction d with
    | zero =>
      intro i f h1 h2
      obtain ⟨f, rfl⟩ : ∃ g, f = g + 1 := ⟨f - 1, by omega⟩
      obtain rfl : n = i := by omega
      exact he _
    | succ d ih =>
      intro i f h1 h2
      obtain ⟨f, rfl⟩ : ∃ g, f = g + 1 := ⟨f - 1, by omega⟩
      exact (hs i (by omega) _).trans (ih (i + 1) f (by omega) (by omega))
  intro f hf
  exact key n 0 f (by omega) hf
theorem li2 {A B R : Type} (F : (A → B → Option R) → (A → B → Option R)) (I : Nat → A → B → Prop) (Post : R → Prop) (n : Nat) (hs : ∀ i (a : A) (b : B), i < n → I i a b → (∃ r, Post r ∧ ∀ k, F k a b = some r) ∨ ∃ (a' : A) (b' : B), I (i + 1) a' b' ∧ ∀ k, F k a b = k a' b') (he : ∀ (a : A) (b : B), I n a b → ∃ r, Post r ∧ ∀ k, F k a b = some r) : ∀ f (a : A) (b : B), n < f → I 0 a b → ∃ r, loopG (fun _ _ => none) F f a b = some r ∧ Post r := by
  have key : ∀ d i f (a : A) (b : B), n = i + d → d < f → I i a b → ∃ r, loopG (fun _ _ => none) F f a b = some r ∧ Post r := by
    intro d
    induction d with
    | zero =>
      intro i f a b h1 h2 h3
      obtain ⟨f, rfl⟩ : ∃ g, f = g + 1 := ⟨f - 1, by omega⟩
      obtain rfl : n = i := by omega
      obtain ⟨r, hr, hk⟩ := he a b h3
      exact ⟨r, hk _, hr⟩
    | succ d ih =>
      intro i f a b h1 h2 h3
      obtain ⟨f, rfl⟩ : ∃ g, f = g + 1 := ⟨f - 1, by omega⟩
      rcases hs i a b (by omega) h3 with ⟨r, hr, hk⟩ | ⟨a', b', h4, hk⟩
      · exact ⟨r, hk _, hr⟩
      · obtain ⟨r, hr, hp⟩ := ih (i + 1) f a' b' (by omega) (by omega) h4
        exact ⟨r, (hk _).trans hr, hp⟩
  intro f a b hf h
  exact key n 0 f a b (by omega) hf h
theorem lr3 {A B C R : Type} (F : (A → B → C → Option R) → (A → B → C → Option R)) (a : Nat → A) (b : Nat → B) (c : Nat → C) (n : Nat) (r : Option R) (hs : ∀ i, i < n → ∀ k, F k (a i) (b i) (c i) = k (a (i + 1)) (b (i + 1)) (c (i + 1))) (he : ∀ k, F k (a n) (b n) (c n) = r) : ∀ f, n < f → loopG (fun _ _ _ => none) F f (a 0) (b 0) (c 0) = r := by
  have key : ∀ d i f, n = i + d → d < f → loopG (fun _ _ _ => none) F f (a i) (b i) (c i) = r := by
    intro d
    induction d with
    | zero =>
      intro i f h1 h2
      obtain ⟨f, rfl⟩ : ∃ g, f = g + 1 := ⟨f - 1, by omega⟩
      obtain rfl : n = i := by omega
      exact he _
    | succ d ih =>
      intro i f h1 h2
      obtain ⟨f, rfl⟩ : ∃ g, f = g + 1 := ⟨f - 1, by omega⟩
      exact (hs i (by omega) _).trans (ih (i + 1) f (by omega) (by omega))
  intro f hf
  exact key n 0 f (by omega) hf
theorem li3 {A B C R : Type} (F : (A → B → C → Option R) → (A → B → C → Option R)) (I : Nat → A → B → C → Prop) (Post : R → Prop) (n : Nat) (hs : ∀ i (a : A) (b : B) (c : C), i < n → I i a b c → (∃ r, Post r ∧ ∀ k, F k a b c = some r) ∨ ∃ (a' : A) (b' : B) (c' : C), I (i + 1) a' b' c' ∧ ∀ k, F k a b c = k a' b' c') (he : ∀ (a : A) (b : B) (c : C), I n a b c → ∃ r, Post r ∧ ∀ k, F k a b c = some r) : ∀ f (a : A) (b : B) (c : C), n < f → I 0 a b c → ∃ r, loopG (fun _ _ _ => none) F f a b c = some r ∧ Post r := by
  have key : ∀ d i f (a : A) (b : B) (c : C), n = i + d → d < f → I i a b c → ∃ r, loopG (fun _ _ _ => none) F f a b c = some r ∧ Post r := by
    intro d
    induction d with
    | zero =>
      intro i f a b c h1 h2 h3
      obtain ⟨f, rfl⟩ : ∃ g, f = g + 1 := ⟨f - 1, by omega⟩
      obtain rfl : n = i := by omega
      obtain ⟨r, hr, hk⟩ := he a b c h3
      exact ⟨r, hk _, hr⟩
    | succ d ih =>
      intro i f a b c h1 h2 h3
      obtain ⟨f, rfl⟩ : ∃ g, f = g + 1 := ⟨f - 1, by omega⟩
      rcases hs i a b c (by omega) h3 with ⟨r, hr, hk⟩ | ⟨a', b', c', h4, hk⟩
      · exact ⟨r, hk _, hr⟩
      · obtain ⟨r, hr, hp⟩ := ih (i + 1) f a' b' c' (by omega) (by omega) h4
        exact ⟨r, (hk _).trans hr, hp⟩
  intro f a b c hf h
  exact key n 0 f a b c (by omega) hf h
theorem lr4 {A B C D R : Type} (F : (A → B → C → D → Option R) → (A → B → C → D → Option R)) (a : Nat → A) (b : Nat → B) (c : Nat → C) (d : Nat → D) (n : Nat) (r : Option R) (hs : ∀ i, i < n → ∀ k, F k (a i) (b i) (c i) (d i) = k (a (i + 1)) (b (i + 1)) (c (i + 1)) (d (i + 1))) (he : ∀ k, F k (a n) (b n) (c n) (d n) = r) : ∀ f, n < f → loopG (fun _ _ _ _ => none) F f (a 0) (b 0) (c 0) (d 0) = r := by
  have key : ∀ d i f, n = i + d → d < f → loopG (fun _ _ _ _ => none) F f (a i) (b i) (c i) (d i) = r := by
    intro d
    induction d with
    | zero =>
      intro i f h1 h2
      obtain ⟨f, rfl⟩ : ∃ g, f = g + 1 := ⟨f - 1, by omega⟩
      obtain rfl : n = i := by omega
      exact he _
    | succ d ih =>
      intro i f h1 h2
      obtain ⟨f, rfl⟩ : ∃ g, f = g + 1 := ⟨f - 1, by omega⟩
      exact (hs i (by omega) _).trans (ih (i + 1) f (by omega) (by omega))
  intro f hf
  exact key n 0 f (by omega) hf
theorem li4 {A B C D R : Type} (F : (A → B → C → D → Option R) → (A → B → C → D → Option R)) (I : Nat → A → B → C → D → Prop) (Post : R → Prop) (n : Nat) (hs : ∀ i (a : A) (b : B) (c : C) (d : D), i < n → I i a b c d → (∃ r, Post r ∧ ∀ k, F k a b c d = some r) ∨ ∃ (a' : A) (b' : B) (c' : C) (d' : D), I (i + 1) a' b' c' d' ∧ ∀ k, F k a b c d = k a' b' c' d') (he : ∀ (a : A) (b : B) (c : C) (d : D), I n a b c d → ∃ r, Post r ∧ ∀ k, F k a b c d = some r) : ∀ f (a : A) (b : B) (c : C) (d : D), n < f → I 0 a b c d → ∃ r, loopG (fun _ _ _ _ => none) F f a b c d = some r ∧ Post r := by
  have key : ∀ d i f (a : A) (b : B) (c : C) (d : D), n = i + d → d < f → I i a b c d → ∃ r, loopG (fun _ _ _ _ => none) F f a b c d = some r ∧ Post r := by
    intro d
    induction d with
    | zero =>
      intro i f a b c d h1 h2 h3
      obtain ⟨f, rfl⟩ : ∃ g, f = g + 1 := ⟨f - 1, by omega⟩
      obtain rfl : n = i := by omega
      obtain ⟨r, hr, hk⟩ := he a b c d h3
      exact ⟨r, hk _, hr⟩
    | succ d ih =>
      intro i f a b c d h1 h2 h3
      obtain ⟨f, rfl⟩ : ∃ g, f = g + 1 := ⟨f - 1, by omega⟩
      rcases hs i a b c d (by omega) h3 with ⟨r, hr, hk⟩ | ⟨a', b', c', d', h4, hk⟩
      · exact ⟨r, hk _, hr⟩
      · obtain ⟨r, hr, hp⟩ := ih (i + 1) f a' b' c' d' (by omega) (by omega) h4
        exact ⟨r, (hk _).trans hr, hp⟩
  intro f a b c d hf h
  exact key n 0 f a b c d (by omega) hf h
theorem lr5 {A B C D E R : Type} (F : (A → B → C → D → E → Option R) → (A → B → C → D → E → Option R)) (a : Nat → A) (b : Nat → B) (c : Nat → C) (d : Nat → D) (e : Nat → E) (n : Nat) (r : Option R) (hs : ∀ i, i < n → ∀ k, F k (a i) (b i) (c i) (d i) (e i) = k (a (i + 1)) (b (i + 1)) (c (i + 1)) (d (i + 1)) (e (i + 1))) (he : ∀ k, F k (a n) (b n) (c n) (d n) (e n) = r) : ∀ f, n < f → loopG (fun _ _ _ _ _ => none) F f (a 0) (b 0) (c 0) (d 0) (e 0) = r := by
  have key : ∀ d i f, n = i + d → d < f → loopG (fun _ _ _ _ _ => none) F f (a i) (b i) (c i) (d i) (e i) = r := by
    intro d
    induction d with
    | zero =>
      intro i f h1 h2
      obtain ⟨f, rfl⟩ : ∃ g, f = g + 1 := ⟨f - 1, by omega⟩
      obtain rfl : n = i := by omega
      exact he _
    | succ d ih =>
      intro i f h1 h2
      obtain ⟨f, rfl⟩ : ∃ g, f = g + 1 := ⟨f - 1, by omega⟩
      exact (hs i (by omega) _).trans (ih (i + 1) f (by omega) (by omega))
  intro f hf
  exact key n 0 f (by omega) hf
theorem li5 {A B C D E R : Type} (F : (A → B → C → D → E → Option R) → (A → B → C → D → E → Option R)) (I : Nat → A → B → C → D → E → Prop) (Post : R → Prop) (n : Nat) (hs : ∀ i (a : A) (b : B) (c : C) (d : D) (e : E), i < n → I i a b c d e → (∃ r, Post r ∧ ∀ k, F k a b c d e = some r) ∨ ∃ (a' : A) (b' : B) (c' : C) (d' : D) (e' : E), I (i + 1) a' b' c' d' e' ∧ ∀ k, F k a b c d e = k a' b' c' d' e') (he : ∀ (a : A) (b : B) (c : C) (d : D) (e : E), I n a b c d e → ∃ r, Post r ∧ ∀ k, F k a b c d e = some r) : ∀ f (a : A) (b : B) (c : C) (d : D) (e : E), n < f → I 0 a b c d e → ∃ r, loopG (fun _ _ _ _ _ => none) F f a b c d e = some r ∧ Post r := by
  have key : ∀ d i f (a : A) (b : B) (c : C) (d : D) (e : E), n = i + d → d < f → I i a b c d e → ∃ r, loopG (fun _ _ _ _ _ => none) F f a b c d e = some r ∧ Post r := by
    intro d
    induction d with
    | zero =>
      intro i f a b c d e h1 h2 h3
      obtain ⟨f, rfl⟩ : ∃ g, f = g + 1 := ⟨f - 1, by omega⟩
      obtain rfl : n = i := by omega
      obtain ⟨r, hr, hk⟩ := he a b c d e h3
      exact ⟨r, hk _, hr⟩
    | succ d ih =>
      intro i f a b c d e h1 h2 h3
      obtain ⟨f, rfl⟩ : ∃ g, f = g + 1 := ⟨f - 1, by omega⟩
      rcases hs i a b c d e (by omega) h3 with ⟨r, hr, hk⟩ | ⟨a', b', c', d', e', h4, hk⟩
      · exact ⟨r, hk _, hr⟩
      · obtain ⟨r, hr, hp⟩ := ih (i + 1) f a' b' c' d' e' (by omega) (by omega) h4
        exact ⟨r, (hk _).trans hr, hp⟩
  intro f a b c d e hf h
  exact key n 0 f a b c d e (by omega) hf h
theorem lr6 {A B C D E F R : Type} (F : (A → B → C → D → E → F → Option R) → (A → B → C → D → E → F → Option R)) (a : Nat → A) (b : Nat → B) (c : Nat → C) (d : Nat → D) (e : Nat → E) (f : Nat → F) (n : Nat) (r : Option R) (hs : ∀ i, i < n → ∀ k, F k (a i) (b i) (c i) (d i) (e i) (f i) = k (a (i + 1)) (b (i + 1)) (c (i + 1)) (d (i + 1)) (e (i + 1)) (f (i + 1))) (he : ∀ k, F k (a n) (b n) (c n) (d n) (e n) (f n) = r) : ∀ f, n < f → loopG (fun _ _ _ _ _ _ => none) F f (a 0) (b 0) (c 0) (d 0) (e 0) (f 0) = r := by
  have key : ∀ d i f, n = i + d → d < f → loopG (fun _ _ _ _ _ _ => none) F f (a i) (b i) (c i) (d i) (e i) (f i) = r := by
    intro d
    induction d with
    | zero =>
      intro i f h1 h2
      obtain ⟨f, rfl⟩ : ∃ g, f = g + 1 := ⟨f - 1, by omega⟩
      obtain rfl : n = i := by omega
      exact he _
    | succ d ih =>
      intro i f h1 h2
      obtain ⟨f, rfl⟩ : ∃ g, f = g + 1 := ⟨f - 1, by omega⟩
      exact (hs i (by omega) _).trans (ih (i + 1) f (by omega) (by omega))
  intro f hf
  exact key n 0 f (by omega) hf
theorem li6 {A B C D E F R : Type} (F : (A → B → C → D → E → F → Option R) → (A → B → C → D → E → F → Option R)) (I : Nat → A → B → C → D → E → F → Prop) (Post : R → Prop) (n : Nat) (hs : ∀ i (a : A) (b : B) (c : C) (d : D) (e : E) (f : F), i < n → I i a b c d e f → (∃ r, Post r ∧ ∀ k, F k a b c d e f = some r) ∨ ∃ (a' : A) (b' : B) (c' : C) (d' : D) (e' : E) (f' : F), I (i + 1) a' b' c' d' e' f' ∧ ∀ k, F k a b c d e f = k a' b' c' d' e' f') (he : ∀ (a : A) (b : B) (c : C) (d : D) (e : E) (f : F), I n a b c d e f → ∃ r, Post r ∧ ∀ k, F k a b c d e f = some r) : ∀ f (a : A) (b : B) (c : C) (d : D) (e : E) (f : F), n < f → I 0 a b c d e f → ∃ r, loopG (fun _ _ _ _ _ _ => none) F f a b c d e f = some r ∧ Post r := by
  have key : ∀ d i f (a : A) (b : B) (c : C) (d : D) (e : E) (f : F), n = i + d → d < f → I i a b c d e f → ∃ r, loopG (fun _ _ _ _ _ _ => none) F f a b c d e f = some r ∧ Post r := by
    intro d
    induction d with
    | zero =>
      intro i f a b c d e f h1 h2 h3
      obtain ⟨f, rfl⟩ : ∃ g, f = g + 1 := ⟨f - 1, by omega⟩
      obtain rfl : n = i := by omega
      obtain ⟨r, hr, hk⟩ := he a b c d e f h3
      exact ⟨r, hk _, hr⟩
    | succ d ih =>
      intro i f a b c d e f h1 h2 h3
      obtain ⟨f, rfl⟩ : ∃ g, f = g + 1 := ⟨f - 1, by omega⟩
      rcases hs i a b c d e f (by omega) h3 with ⟨r, hr, hk⟩ | ⟨a', b', c', d', e', f', h4, hk⟩
      · exact ⟨r, hk _, hr⟩
      · obtain ⟨r, hr, hp⟩ := ih (i + 1) f a' b' c' d' e' f' (by omega) (by omega) h4
        exact ⟨r, (hk _).trans hr, hp⟩
  intro f a b c d e f hf h
  exact key n 0 f a b c d e f (by omega) hf h
theorem lr7 {A B C D E F G R : Type} (F : (A → B → C → D → E → F → G → Option R) → (A → B → C → D → E → F → G → Option R)) (a : Nat → A) (b : Nat → B) (c : Nat → C) (d : Nat → D) (e : Nat → E) (f : Nat → F) (g : Nat → G) (n : Nat) (r : Option R) (hs : ∀ i, i < n → ∀ k, F k (a i) (b i) (c i) (d i) (e i) (f i) (g i) = k (a (i + 1)) (b (i + 1)) (c (i + 1)) (d (i + 1)) (e (i + 1)) (f (i + 1)) (g (i + 1))) (he : ∀ k, F k (a n) (b n) (c n) (d n) (e n) (f n) (g n) = r) : ∀ f, n < f → loopG (fun _ _ _ _ _ _ _ => none) F f (a 0) (b 0) (c 0) (d 0) (e 0) (f 0) (g 0) = r := by
  have key : ∀ d i f, n = i + d → d < f → loopG (fun _ _ _ _ _ _ _ => none) F f (a i) (b i) (c i) (d i) (e i) (f i) (g i) = r := by
    intro d
    induction d with
    | zero =>
      intro i f h1 h2
      obtain ⟨f, rfl⟩ : ∃ g, f = g + 1 := ⟨f - 1, by omega⟩
      obtain rfl : n = i := by omega
      exact he _
    | succ d ih =>
      intro i f h1 h2
      obtain ⟨f, rfl⟩ : ∃ g, f = g + 1 := ⟨f - 1, by omega⟩
      exact (hs i (by omega) _).trans (ih (i + 1) f (by omega) (by omega))
  intro f hf
  exact key n 0 f (by omega) hf
theorem li7 {A B C D E F G R : Type} (F : (A → B → C → D → E → F → G → Option R) → (A → B → C → D → E → F → G → Option R)) (I : Nat → A → B → C → D → E → F → G → Prop) (Post : R → Prop) (n : Nat) (hs : ∀ i (a : A) (b : B) (c : C) (d : D) (e : E) (f : F) (g : G), i < n → I i a b c d e f g → (∃ r, Post r ∧ ∀ k, F k a b c d e f g = some r) ∨ ∃ (a' : A) (b' : B) (c' : C) (d' : D) (e' : E) (f' : F) (g' : G), I (i + 1) a' b' c' d' e' f' g' ∧ ∀ k, F k a b c d e f g = k a' b' c' d' e' f' g') (he : ∀ (a : A) (b : B) (c : C) (d : D) (e : E) (f : F) (g : G), I n a b c d e f g → ∃ r, Post r ∧ ∀ k, F k a b c d e f g = some r) : ∀ f (a : A) (b : B) (c : C) (d : D) (e : E) (f : F) (g : G), n < f → I 0 a b c d e f g → ∃ r, loopG (fun _ _ _ _ _ _ _ => none) F f a b c d e f g = some r ∧ Post r := by
  have key : ∀ d i f (a : A) (b : B) (c : C) (d : D) (e : E) (f : F) (g : G), n = i + d → d < f → I i a b c d e f g → ∃ r, loopG (fun _ _ _ _ _ _ _ => none) F f a b c d e f g = some r ∧ Post r := by
    intro d
    induction d with
    | zero =>
      intro i f a b c d e f g h1 h2 h3
      obtain ⟨f, rfl⟩ : ∃ g, f = g + 1 := ⟨f - 1, by omega⟩
      obtain rfl : n = i := by omega
      obtain ⟨r, hr, hk⟩ := he a b c d e f g h3
      exact ⟨r, hk _, hr⟩
    | succ d ih =>
      intro i f a b c d e f g h1 h2 h3
      obtain ⟨f, rfl⟩ : ∃ g, f = g + 1 := ⟨f - 1, by omega⟩
      rcases hs i a b c d e f g (by omega) h3 with ⟨r, hr, hk⟩ | ⟨a', b', c', d', e', f', g', h4, hk⟩
      · exact ⟨r, hk _, hr⟩
      · obtain ⟨r, hr, hp⟩ := ih (i + 1) f a' b' c' d' e' f' g' (by omega) (by omega) h4
        exact ⟨r, (hk _).trans hr, hp⟩
  intro f a b c d e f g hf h
  exact key n 0 f a b c d e f g (by omega) hf h
theorem lr8 {A B C D E F G H R : Type} (F : (A → B → C → D → E → F → G → H → Option R) → (A → B → C → D → E → F → G → H → Option R)) (a : Nat → A) (b : Nat → B) (c : Nat → C) (d : Nat → D) (e : Nat → E) (f : Nat → F) (g : Nat → G) (h : Nat → H) (n : Nat) (r : Option R) (hs : ∀ i, i < n → ∀ k, F k (a i) (b i) (c i) (d i) (e i) (f i) (g i) (h i) = k (a (i + 1)) (b (i + 1)) (c (i + 1)) (d (i + 1)) (e (i + 1)) (f (i + 1)) (g (i + 1)) (h (i + 1))) (he : ∀ k, F k (a n) (b n) (c n) (d n) (e n) (f n) (g n) (h n) = r) : ∀ f, n < f → loopG (fun _ _ _ _ _ _ _ _ => none) F f (a 0) (b 0) (c 0) (d 0) (e 0) (f 0) (g 0) (h 0) = r := by
  have key : ∀ d i f, n = i + d → d < f → loopG (fun _ _ _ _ _ _ _ _ => none) F f (a i) (b i) (c i) (d i) (e i) (f i) (g i) (h i) = r := by
    intro d
    induction d with
    | zero =>
      intro i f h1 h2
      obtain ⟨f, rfl⟩ : ∃ g, f = g + 1 := ⟨f - 1, by omega⟩
      obtain rfl : n = i := by omega
      exact he _
    | succ d ih =>
      intro i f h1 h2
      obtain ⟨f, rfl⟩ : ∃ g, f = g + 1 := ⟨f - 1, by omega⟩
      exact (hs i (by omega) _).trans (ih (i + 1) f (by omega) (by omega))
  intro f hf
  exact key n 0 f (by omega) hf
theorem li8 {A B C D E F G H R : Type} (F : (A → B → C → D → E → F → G → H → Option R) → (A → B → C → D → E → F → G → H → Option R)) (I : Nat → A → B → C → D → E → F → G → H → Prop) (Post : R → Prop) (n : Nat) (hs : ∀ i (a : A) (b : B) (c : C) (d : D) (e : E) (f : F) (g : G) (h : H), i < n → I i a b c d e f g h → (∃ r, Post r ∧ ∀ k, F k a b c d e f g h = some r) ∨ ∃ (a' : A) (b' : B) (c' : C) (d' : D) (e' : E) (f' : F) (g' : G) (h' : H), I (i + 1) a' b' c' d' e' f' g' h' ∧ ∀ k, F k a b c d e f g h = k a' b' c' d' e' f' g' h') (he : ∀ (a : A) (b : B) (c : C) (d : D) (e : E) (f : F) (g : G) (h : H), I n a b c d e f g h → ∃ r, Post r ∧ ∀ k, F k a b c d e f g h = some r) : ∀ f (a : A) (b : B) (c : C) (d : D) (e : E) (f : F) (g : G) (h : H), n < f → I 0 a b c d e f g h → ∃ r, loopG (fun _ _ _ _ _ _ _ _ => none) F f a b c d e f g h = some r ∧ Post r := by
  have key : ∀ d i f (a : A) (b : B) (c : C) (d : D) (e : E) (f : F) (g : G) (h : H), n = i + d → d < f → I i a b c d e f g h → ∃ r, loopG (fun _ _ _ _ _ _ _ _ => none) F f a b c d e f g h = some r ∧ Post r := by
    intro d
    induction d with
    | zero =>
      intro i f a b c d e f g h h1 h2 h3
      obtain ⟨f, rfl⟩ : ∃ g, f = g + 1 := ⟨f - 1, by omega⟩
      obtain rfl : n = i := by omega
      obtain ⟨r, hr, hk⟩ := he a b c d e f g h h3
      exact ⟨r, hk _, hr⟩
    | succ d ih =>
      intro i f a b c d e f g h h1 h2 h3
      obtain ⟨f, rfl⟩ : ∃ g, f = g + 1 := ⟨f - 1, by omega⟩
      rcases hs i a b c d e f g h (by omega) h3 with ⟨r, hr, hk⟩ | ⟨a', b', c', d', e', f', g', h', h4, hk⟩
      · exact ⟨r, hk _, hr⟩
      · obtain ⟨r, hr, hp⟩ := ih (i + 1) f a' b' c' d' e' f' g' h' (by omega) (by omega) h4
        exact ⟨r, (hk _).trans hr, hp⟩
  intro f a b c d e f g h hf h
  exact key n 0 f a b c d e f g h (by omega) hf h
theorem hs_eq {σ : Hp} {o k : Nat} {v : Int32} : hset σ o k v o k = v := by simp [hset, upd]
theorem hs_o {σ : Hp} {o k a : Nat} {v : Int32} (h : a ≠ o) : hset σ o k v a = σ a := by simp [hset, h]
theorem hs_k {σ : Hp} {o k j : Nat} {v : Int32} (h : j ≠ k) : hset σ o k v o j = σ o j := by simp [hset, upd, h]
theorem hs_ok {σ : Hp} {o k a j : Nat} {v : Int32} : hset σ o k v a j = if a = o ∧ j = k then v else σ a j := by
  by_cases h : a = o
  · subst h
    by_cases h2 : j = k
    · subst h2; simp [hset, upd]
    · simp [hset, upd, h2]
  · simp [hset, h]
theorem fa_lit (n : Nat) : (OfNat.ofNat n : Int32) = nI n := rfl
theorem nI_e {a b : Nat} (ha : a < 2 ^ 31) (hb : b < 2 ^ 31) : (nI a = nI b) = (a = b) := propext (nI_eq ha hb)
theorem nI_l {a b : Nat} (ha : a < 2 ^ 31) (hb : b < 2 ^ 31) : (nI a < nI b) = (a < b) := propext (nI_ltI ha hb)
theorem nI_g {a b : Nat} (ha : a < 2 ^ 31) (hb : b < 2 ^ 31) : (nI a ≤ nI b) = (a ≤ b) := propext (nI_leI ha hb)
theorem gi_in {α : Type} {k n : Nat} {t : Option α} (h : k < n) (hn : n < 2 ^ 31) : gi (nI k) n t = t := if_neg (nI_in h hn)
theorem bnd_e {α β : Type} (x : α) (f : α → β) : bnd x f = f x := rfl
theorem bind_s {α β : Type} (x : α) (f : α → Option β) : Option.bind (some x) f = f x := rfl
theorem b2_s {α β γ : Type} (x : α) (y : β) (f : α → β → Option γ) : b2 (some (x, y)) f = f x y := rfl
theorem zb_0 {α : Type} (t : Option α) : zb (nI 0) t = t := rfl
theorem zb_1 {α : Type} (t : Option α) : zb (nI 1) t = t := rfl
theorem zb_b {α : Type} {k : Nat} (h : k < 2) (t : Option α) : zb (nI k) t = t := by
  rcases (show k = 0 ∨ k = 1 by omega) with rfl | rfl <;> rfl
theorem zb_if {α : Type} (c : Prop) [Decidable c] (t : Option α) : zb (if c then nI 1 else nI 0) t = t := by by_cases h : c <;> simp [h, zb_0, zb_1]
theorem zb_if2 {α : Type} (c : Prop) [Decidable c] (t : Option α) : zb (if c then nI 0 else nI 1) t = t := by by_cases h : c <;> simp [h, zb_0, zb_1]
theorem ofNat_nI (n : Nat) : Int32.ofNat n = nI n := rfl
theorem at_in {a la k : Nat} {σ : Hp} (h : k < la) (hl : la < 2 ^ 31) : t_X6_at a la (nI k) σ = some (σ a k) := by
  unfold t_X6_at
  rw [if_neg (nI_pos (by omega)), if_neg (nI_ge h hl), gi_in h hl, nI_clamp (by omega)]
theorem put_in {a la k : Nat} {v : Int32} {σ : Hp} (h : k < la) (hl : la < 2 ^ 31) : t_X6_put a la (nI k) v σ = some (hset σ a k v) := by
  unfold t_X6_put
  rw [if_neg (nI_pos (by omega)), if_neg (nI_ge h hl), gi_in h hl, nI_clamp (by omega)]; rfl
theorem fact_in {o e k : Nat} {σ : Hp} (he : e < 7) (hk : k < 5) : t_X0_fact o (nI e) (nI k) σ = some (σ (o + 2) (e * 5 + k)) := by
  unfold t_X0_fact
  rw [show (5 : Int32) = nI 5 from rfl, pk_mul, nI_add, at_in (by omega) (by omega)]; rfl
theorem setFact_in {o e k : Nat} {v : Int32} {σ : Hp} (he : e < 7) (hk : k < 5) : t_X0_setFact o (nI e) (nI k) v σ = some (hset σ (o + 2) (e * 5 + k) v) := by
  unfold t_X0_setFact
  rw [show (5 : Int32) = nI 5 from rfl, pk_mul, nI_add, put_in (by omega) (by omega)]; rfl
theorem isWhole_in {o e : Nat} {σ : Hp} (he : e < 7) : t_X0_isWhole o (nI e) σ = some (if σ (o + 2) (e * 5 + 4) = nI 0 then nI 1 else nI 0) := by
  unfold t_X0_isWhole
  rw [show (5 : Int32) = nI 5 from rfl, show (4 : Int32) = nI 4 from rfl, pk_mul, nI_add, at_in (by omega) (by omega), bind_s]
  by_cases h : σ (o + 2) (e * 5 + 4) = nI 0
  · rw [if_pos h, if_pos h]; rfl
  · rw [if_neg h, if_neg h]; rfl
theorem isWarmEnough_in {o e : Nat} {σ : Hp} (he : e < 7) : t_X0_isWarmEnough o (nI e) σ = some (if σ (o + 2) (e * 5 + 1) < σ (o + 2) (e * 5) then nI 0 else nI 1) := by
  unfold t_X0_isWarmEnough
  rw [show (5 : Int32) = nI 5 from rfl, show (1 : Int32) = nI 1 from rfl, show (0 : Int32) = nI 0 from rfl, pk_mul, nI_add, nI_add, at_in (by omega) (by omega), at_in (by omega) (by omega), bind_s, bind_s]
  by_cases h : σ (o + 2) (e * 5 + 1) < σ (o + 2) (e * 5 + 0)
  · rw [if_pos h, if_pos h]
  · rw [if_neg h, if_neg h]

