/-! THE DEEP MACHINE: an abstract state (memory of numbered cells whose places hold whole numbers), the effect of an instruction on it, and what a run of a method comes to. -/
abbrev jm_V : Type := Int ⊕ (Nat ⊕ Int)
abbrev jm_I (x : Int) : jm_V := .inl x
abbrev jm_R (c : Nat) : jm_V := .inr (.inl c)
abbrev jm_L (x : Int) : jm_V := .inr (.inr x)
abbrev jm_Mem : Type := Nat → Int → Int
abbrev jm_Ls : Type := List (Option jm_V)
abbrev jm_Q : Type := Option jm_V → jm_Mem → Prop
def jm_up (f : Int → Int) (i v : Int) : Int → Int := fun j => if j = i then v else f j
def jm_sr (M : jm_Mem) (c : Nat) (f : Int → Int) : jm_Mem := fun d => if d = c then f else M d
def jm_st (M : jm_Mem) (c : Nat) (i v : Int) : jm_Mem := jm_sr M c (jm_up (M c) i v)
def jm_in (x : Int) : Prop := -2147483648 ≤ x ∧ x ≤ 2147483647
def jm_nth {α : Type} : List α → Nat → Option α
  | [], _ => none
  | a :: _, 0 => some a
  | _ :: l, n + 1 => jm_nth l n
def jm_lg : jm_Ls → Nat → Option jm_V
  | [], _ => none
  | a :: _, 0 => a
  | _ :: l, n + 1 => jm_lg l n
def jm_ls : jm_Ls → Nat → jm_V → jm_Ls
  | [], _, _ => []
  | _ :: l, 0, v => some v :: l
  | a :: l, n + 1, v => a :: jm_ls l n v
def jm_mem : Nat → List Nat → Bool
  | _, [] => false
  | a, b :: l => match Nat.beq a b with
    | true => true
    | false => jm_mem a l
/-- the locals at a method's entry -/
def jm_pad : List jm_V → Nat → jm_Ls
  | [], n => List.replicate n none
  | .inr (.inr x) :: as, n + 2 => some (.inr (.inr x)) :: none :: jm_pad as n
  | v :: as, n + 1 => some v :: jm_pad as n
  | _ :: _, 0 => []
/-- division and remainder as the machine does them, by a number above 0 -/
def jm_dv (x y : Int) : Int := if 0 ≤ x then x / y else -((-x) / y)
def jm_rm (x y : Int) : Int := if 0 ≤ x then x % y else -((-x) % y)
def jm_or (x y : Int) : Int := ((x.toNat ||| y.toNat : Nat) : Int)
def jm_byte (x : Int) : Int := (x + 128) % 256 - 128
def jm_cmp (x y : Int) : Int := if x < y then -1 else if x = y then 0 else 1
def jm_spl (v a : Int) : Int := if 0 < a then 27 * v + a - 96 else v
/-- what spelt answers -/
def jm_spelt (a b c d e : Int) : Int := jm_spl (jm_spl (jm_spl (jm_spl (jm_spl 0 a) b) c) d) e
def jm_cpy (f g : Int → Int) (sp dp n : Int) : Int → Int := fun j => if dp ≤ j ∧ j < dp + n then f (sp + (j - dp)) else g j
abbrev jm_Cfg : Type := Nat × jm_Ls × List jm_V × jm_Mem
/-- an effect: it goes on (what must hold; guards, and where each leads; else); a call (its kind: 0 void, 1 a number, 2 a number or thrown, as the law's own methods tell it; method, arguments, the stack below); an end (what must hold, answer, memory) -/
abbrev jm_Eff : Type := (List Prop × List (Prop × jm_Cfg) × jm_Cfg) ⊕ ((Nat × Nat × List jm_V × List jm_V) ⊕ (List Prop × Option jm_V × jm_Mem))
def jm_bad (M : jm_Mem) : jm_Eff := .inr (.inr ([False], none, M))
def jm_go (k : Nat) (ls : jm_Ls) (st : List jm_V) (M : jm_Mem) : jm_Eff := .inl ([], [], (k, ls, st, M))
def jm_gs (s : List Prop) (k : Nat) (ls : jm_Ls) (st : List jm_V) (M : jm_Mem) : jm_Eff := .inl (s, [], (k, ls, st, M))
def jm_br (P : Prop) (a b : Nat) (ls : jm_Ls) (st : List jm_V) (M : jm_Mem) : jm_Eff := .inl ([], [(P, (a, ls, st, M))], (b, ls, st, M))
def jm_tk : Nat → List jm_V → List jm_V → Option (List jm_V × List jm_V)
  | 0, st, as => some (as, st)
  | n + 1, v :: st, as => jm_tk n st (v :: as)
  | _ + 1, [], _ => none
def jm_swl (x : Int) : Int → List Nat → jm_Ls → List jm_V → jm_Mem → List (Prop × jm_Cfg)
  | _, [], _, _, _ => []
  | i, t :: ts, ls, st, M => (x = i, (t, ls, st, M)) :: jm_swl x (i + 1) ts ls st M
def jm_cj : List Prop → Prop → Prop
  | [], p => p
  | s :: l, p => s ∧ jm_cj l p
def jm_dl (w : jm_Cfg → Prop) : List (Prop × jm_Cfg) → jm_Cfg → Prop
  | [], d => w d
  | (P, s) :: l, d => (P → w s) ∧ (¬ P → jm_dl w l d)
/-- an answer that means: thrown -/
abbrev jm_thr : Option jm_V := some (.inr (.inl 777))
/-- cells and places that were made are counted at cell 999 -/
def jm_gh (M : jm_Mem) (a b : Int) : jm_Mem := jm_st (jm_st M 999 0 (M 999 0 + a)) 999 1 (M 999 1 + b)
def jm_k (w : List jm_V → jm_Mem → Prop) (rest : List jm_V) : Nat → jm_Q
  | 0 => fun r M' => r = none ∧ w rest M'
  | 1 => fun r M' => ∃ x : Int, r = some (.inl x) ∧ w (.inl x :: rest) M'
  | _ => fun r M' => (r = jm_thr ∧ w (.inl 1 :: rest) (jm_gh M' 1 6)) ∨ ∃ x : Int, r = some (.inl x) ∧ w (.inl 0 :: rest) (jm_st M' 94 0 x)
def jm_do (wc : Nat → List jm_V → jm_Mem → jm_Q → Prop) (w : jm_Cfg → Prop) (Q : jm_Q) (k : Nat) (ls : jm_Ls) (M : jm_Mem) (E : jm_Eff) : Prop := match E with
  | .inl (s, dl, d) => jm_cj s (jm_dl w dl d)
  | .inr (.inl (kd, mi, as, rest)) => wc mi as M (jm_k (fun st M' => w (k + 1, ls, st, M')) rest kd)
  | .inr (.inr (s, r, M')) => jm_cj s (Q r M')
