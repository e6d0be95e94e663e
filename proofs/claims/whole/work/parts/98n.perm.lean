/-! orders of at most six -/
def nxt : List Nat → Option (List Nat)
  | [] => none
  | a :: l => match nxt l with
    | some l' => some (a :: l')
    | none => match l.reverse.find? (fun x => Nat.blt a x) with
      | none => none
      | some b => some (b :: (l.reverse.map (fun x => match Nat.beq x b with
        | true => a
        | false => x)))
def seqL : Nat → List Nat → List (List Nat)
  | 0, _ => []
  | k + 1, p => p :: (match nxt p with
    | some q => seqL k q
    | none => [])
def tups (n : Nat) : Nat → List (List Nat)
  | 0 => [[]]
  | k + 1 => (List.range n).flatMap (fun a => (tups n k).map (fun t => a :: t))
def ndB : List Nat → Bool
  | [] => true
  | a :: l => l.all (fun x => !(Nat.beq a x)) && ndB l
theorem seq_tups : ∀ n : Fin 6, seqL 720 (List.range n.val) = (tups n.val n.val).filter ndB := by decide +kernel
theorem seq_tups6 : seqL 720 (List.range 6) = (tups 6 6).filter ndB := by decide +kernel
