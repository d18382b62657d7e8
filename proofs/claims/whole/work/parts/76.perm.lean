/-! all rows, in the order of their digits -/
def lexL (n : Nat) : Nat → Nat → List (List Nat)
  | 0, _ => [[]]
  | d + 1, b => (List.range n).flatMap (fun e => if b.testBit e = true then [] else (lexL n d (b ||| 2 ^ e)).map (fun l => e :: l))
def rw7 (l : List Nat) (p : Nat) : Nat := l.getD p 0
def pv (f : Nat → Nat) : Nat → Nat
  | 0 => 0
  | k + 1 => if f k ≤ f (k + 1) then k + 1 else pv f k
def jv (f : Nat → Nat) (i : Nat) : Nat → Nat
  | 0 => 0
  | k + 1 => if f i ≤ f (k + 1) then k + 1 else jv f i k
def sw2 (f : Nat → Nat) (a b : Nat) : Nat → Nat := fun x => if x = b then f a else if x = a then f b else f x
def rv : Nat → (Nat → Nat) → Nat → Nat → (Nat → Nat)
  | 0, f, _, _ => f
  | d + 1, f, a, b => if b ≤ a then f else rv d (sw2 f a b) (a + 1) (b - 1)
def nxF (n : Nat) (f : Nat → Nat) : Nat → Nat := rv 4 (sw2 f (pv f (n - 1) - 1) (jv f (pv f (n - 1) - 1) (n - 1))) (pv f (n - 1)) (n - 1)
def chkN (n : Nat) : List (List Nat) → Bool
  | [] => true
  | l :: t => match t with
    | [] => pv (rw7 l) (n - 1) == 0
    | l' :: _ => (pv (rw7 l) (n - 1) != 0) && ((List.range n).map (nxF n (rw7 l)) == l') && chkN n t
theorem chk_5 : chkN 5 (lexL 5 5 0) = true := by decide +kernel
theorem chk_6 : chkN 6 (lexL 6 6 0) = true := by decide +kernel
theorem chk_7 : chkN 7 (lexL 7 7 0) = true := by decide +kernel
theorem len_E : (lexL 7 7 0).length = 5040 ∧ ∀ n, n < 7 → (lexL n n 0).length ≤ 5040 := by decide +kernel
theorem chk_0 : ∀ n, n < 5 → 1 ≤ n → chkN n (lexL n n 0) = true := by decide +kernel
