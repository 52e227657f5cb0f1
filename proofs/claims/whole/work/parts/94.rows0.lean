section
variable {X : Nat × (Nat → Int32)} {d : Nat} {al : List Nat} {D : Nat → Bool} {I : Nat → Nat → Int32} {L : Nat → Nat → Int64}
/-- rows of pipes: the next one -/
def pv (f : Nat → Nat) : Nat → Option Nat
  | 0 => none
  | i + 1 => cond (Nat.ble (f i) (f (i + 1))) (some i) (pv f i)
def ot (f : Nat → Nat) (a : Nat) : Nat → Nat
  | 0 => 0
  | j + 1 => cond (Nat.ble (f a) (f (j + 1))) (j + 1) (ot f a j)
def sw (f : Nat → Nat) (a b i : Nat) : Nat := cond (Nat.beq i b) (f a) (cond (Nat.beq i a) (f b) (f i))
def rv (f : Nat → Nat) : Nat → Nat → Nat → Nat → Nat
  | 0, _, _ => f
  | n + 1, lo, hi => cond (Nat.ble hi lo) f (rv (sw f lo hi) n (lo + 1) (hi - 1))
def li (l : List Nat) (i : Nat) : Nat := l.getD i 0
def nr (n : Nat) (l : List Nat) : Option (List Nat) := match pv (li l) (n - 1) with
  | none => none
  | some a => some ((List.range 6).map (rv (sw (li l) a (ot (li l) a (n - 1))) 6 (a + 1) (n - 1)))
def rw0 : List Nat := [0, 1, 2, 3, 4, 5]
def gen (n : Nat) : Nat → List Nat → List (List Nat)
  | 0, _ => []
  | k + 1, l => l :: match nr n l with
    | none => []
    | some l' => gen n k l'
def rws (n : Nat) : List (List Nat) := gen n 720 rw0
/-- a row holds the pipes below n once each, and numbers below 6 -/
def okB (n : Nat) (l : List Nat) : Bool := (List.range 6).all (fun i => Nat.blt (li l i) 6) && (List.range n).all (fun i => Nat.blt (li l i) n) && (List.range n).all (fun p => (List.range n).any (fun i => Nat.beq (li l i) p)) && (List.range n).all (fun i => (List.range n).all (fun j => Nat.beq i j || !Nat.beq (li l i) (li l j)))
def lb : List Nat → List Nat → Bool
  | [], [] => true
  | a :: x, b :: y => Nat.beq a b && lb x y
  | _, _ => false
theorem lb_eq : ∀ x y, lb x y = true → x = y
  | [], [], _ => rfl
  | a :: x, b :: y, h => by
    rw [lb, Bool.and_eq_true] at h
    rw [Nat.eq_of_beq_eq_true h.1, lb_eq x y h.2]
  | [], _ :: _, h => by cases h
  | _ :: _, [], h => by cases h
def chS (o : Option (List Nat)) (t : List (List Nat)) (r : Bool) : Bool := match o with
  | none => t.isEmpty
  | some l' => match t with
    | [] => false
    | l'' :: _ => lb l' l'' && r
def chB (n : Nat) : List (List Nat) → Bool
  | [] => false
  | l :: t => okB n l && chS (nr n l) t (chB n t)
theorem rws_ch : ∀ n : Fin 7, (chB n.val (rws n.val) && Nat.ble (rws n.val).length 720) = true := by decide +kernel
end
