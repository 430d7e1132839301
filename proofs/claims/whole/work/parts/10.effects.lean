/-! THE EFFECT OF AN INSTRUCTION, what a run comes to, and the rule by which a stretch of code is run -/
def jm_b2 (M : jm_Mem) (st : List jm_V) (f : Int → Int → List jm_V → jm_Eff) : jm_Eff := match st with
  | .inl y :: .inl x :: r => f x y r
  | _ => jm_bad M
def jm_l2 (M : jm_Mem) (st : List jm_V) (f : Int → Int → List jm_V → jm_Eff) : jm_Eff := match st with
  | .inr (.inr y) :: .inr (.inr x) :: r => f x y r
  | _ => jm_bad M
def jm_u1 (M : jm_Mem) (st : List jm_V) (f : Int → List jm_V → jm_Eff) : jm_Eff := match st with
  | .inl x :: r => f x r
  | _ => jm_bad M
def jm_ldI (k : Nat) (ls : jm_Ls) (st : List jm_V) (M : jm_Mem) (i : Nat) : jm_Eff := match jm_lg ls i with
  | some (.inl x) => jm_go (k + 1) ls (.inl x :: st) M
  | _ => jm_bad M
def jm_ldA (k : Nat) (ls : jm_Ls) (st : List jm_V) (M : jm_Mem) (i : Nat) : jm_Eff := match jm_lg ls i with
  | some (.inr (.inl c)) => jm_go (k + 1) ls (.inr (.inl c) :: st) M
  | _ => jm_bad M
def jm_ldL (k : Nat) (ls : jm_Ls) (st : List jm_V) (M : jm_Mem) (i : Nat) : jm_Eff := match jm_lg ls i with
  | some (.inr (.inr x)) => jm_go (k + 1) ls (.inr (.inr x) :: st) M
  | _ => jm_bad M
def jm_stI (k : Nat) (ls : jm_Ls) (st : List jm_V) (M : jm_Mem) (i : Nat) : jm_Eff := match st with
  | .inl x :: r => jm_go (k + 1) (jm_ls ls i (.inl x)) r M
  | _ => jm_bad M
def jm_stA (k : Nat) (ls : jm_Ls) (st : List jm_V) (M : jm_Mem) (i : Nat) : jm_Eff := match st with
  | .inr (.inl c) :: r => jm_go (k + 1) (jm_ls ls i (.inr (.inl c))) r M
  | _ => jm_bad M
def jm_i1 (k : Nat) (c : ClassFile.Cond) (t : Nat) (ls : jm_Ls) (st : List jm_V) (M : jm_Mem) : jm_Eff := jm_u1 M st fun x r => match c with
  | .eq => jm_br (x = 0) t (k + 1) ls r M
  | .ne => jm_br (x = 0) (k + 1) t ls r M
  | .lt => jm_br (x < 0) t (k + 1) ls r M
  | .ge => jm_br (x < 0) (k + 1) t ls r M
  | .gt => jm_br (0 < x) t (k + 1) ls r M
  | .le => jm_br (0 < x) (k + 1) t ls r M
def jm_i2 (k : Nat) (c : ClassFile.Cond) (t : Nat) (ls : jm_Ls) (st : List jm_V) (M : jm_Mem) : jm_Eff := jm_b2 M st fun x y r => match c with
  | .eq => jm_br (x = y) t (k + 1) ls r M
  | .ne => jm_br (x = y) (k + 1) t ls r M
  | .lt => jm_br (x < y) t (k + 1) ls r M
  | .ge => jm_br (x < y) (k + 1) t ls r M
  | .gt => jm_br (y < x) t (k + 1) ls r M
  | .le => jm_br (y < x) (k + 1) t ls r M
/-- the law's script: its length stands at place -1 of cell 998 -/
def jm_ald (k : Nat) (ls : jm_Ls) (M : jm_Mem) (c : Nat) (i : Int) (r : List jm_V) : jm_Eff := match Nat.beq c 998 with
  | true => jm_gs [0 ≤ i, i < M 998 (-1)] (k + 1) ls (.inl (M 998 i) :: r) M
  | false => match jm_sh c with
    | (0, n, _) => jm_gs [0 ≤ i, i < (n : Int)] (k + 1) ls (.inl (M c i) :: r) M
    | _ => jm_bad M
def jm_bld (k : Nat) (ls : jm_Ls) (M : jm_Mem) (c : Nat) (i : Int) (r : List jm_V) : jm_Eff := match jm_sh c with
  | (1, n, _) => jm_gs [0 ≤ i, i < (n : Int)] (k + 1) ls (.inl (M c i) :: r) M
  | (2, n, _) => jm_gs [0 ≤ i, i < (n : Int)] (k + 1) ls (.inl (M c i) :: r) M
  | _ => jm_bad M
def jm_get (k f ci : Nat) (ls : jm_Ls) (st : List jm_V) (M : jm_Mem) : jm_Eff := match st with
  | .inr (.inl c) :: r => match Nat.beq (jm_sh c).1 (10 + ci), jm_fk c f with
    | true, some 0 => jm_go (k + 1) ls (.inl (M c (f : Int)) :: r) M
    | true, some 1 => jm_go (k + 1) ls (.inr (.inr (M c (f : Int))) :: r) M
    | true, some 2 => jm_go (k + 1) ls (.inl (M c (f : Int)) :: r) M
    | true, some (t + 3) => jm_go (k + 1) ls (.inr (.inl t) :: r) M
    | _, _ => jm_bad M
  | _ => jm_bad M
def jm_put (k f ci : Nat) (ls : jm_Ls) (st : List jm_V) (M : jm_Mem) : jm_Eff := match st with
  | .inl x :: .inr (.inl c) :: r => match Nat.beq (jm_sh c).1 (10 + ci), jm_fk c f with
    | true, some 0 => jm_go (k + 1) ls r (jm_st M c (f : Int) x)
    | true, some 2 => jm_gs [0 ≤ x, x ≤ 1] (k + 1) ls r (jm_st M c (f : Int) x)
    | _, _ => jm_bad M
  | .inr (.inr x) :: .inr (.inl c) :: r => match Nat.beq (jm_sh c).1 (10 + ci), jm_fk c f with
    | true, some 1 => jm_go (k + 1) ls r (jm_st M c (f : Int) x)
    | _, _ => jm_bad M
  | _ => jm_bad M
/-- the constants' bytes -/
def jm_strT : List (List Int) := [[103, 114, 105, 100], [97, 108, 108], [114, 105, 103, 104, 116], [100, 111, 119, 110], [115, 108, 97, 115, 104], [98, 97, 99, 107]]
def jm_str (s : Nat) : List Int := (jm_nth jm_strT s).getD []
def jm_chr : List Int → Nat → Int
  | [], _ => 0
  | a :: _, 0 => a
  | _ :: l, n + 1 => jm_chr l n
/-- what fits below a call: eight words -/
def jm_ft : List jm_V → Nat → Bool
  | [], _ => true
  | .inr (.inr _) :: r, n + 2 => jm_ft r n
  | .inl _ :: r, n + 1 => jm_ft r n
  | .inr (.inl _) :: r, n + 1 => jm_ft r n
  | _, _ => false
def jm_fit (st : List jm_V) : Bool := jm_ft st 8
/-- no long among the arguments, but for the method that takes one -/
def jm_nla : List jm_V → Bool
  | [] => true
  | .inr (.inr _) :: _ => false
  | _ :: l => jm_nla l
/-- the law's script is no argument -/
def jm_n98 : List jm_V → Bool
  | [] => true
  | .inr (.inl c) :: l => match Nat.beq c 998 with
    | true => false
    | false => jm_n98 l
  | _ :: l => jm_n98 l
def jm_cat : List jm_V → Nat
  | [] => 0
  | .inr (.inr _) :: l => jm_cat l + 2
  | _ :: l => jm_cat l + 1
def jm_alo (mi : Nat) (as : List jm_V) : Bool := match jm_n98 as, Nat.ble (jm_cat as) (jm_mi mi).2.2.2.1 with
  | true, true => match Nat.beq mi 140 with
    | true => true
    | false => jm_nla as
  | _, _ => false
def jm_callv (mi : Nat) (M : jm_Mem) (as rest : List jm_V) : jm_Eff := match as with
  | .inr (.inl c) :: as' => match Nat.beq (jm_sh c).1 (10 + (jm_mi mi).1) with
    | true => .inr (.inl ((jm_mi mi).2.2.2.2.2.2, mi, .inr (.inl c) :: as', rest))
    | false => jm_bad M
  | _ => jm_bad M
def jm_call (mi v : Nat) (st : List jm_V) (M : jm_Mem) : jm_Eff := match Nat.beq (jm_mi mi).2.1 v, jm_tk (jm_mi mi).2.2.1 st [] with
  | true, some (as, rest) => match jm_fit rest, jm_alo mi as with
    | true, true => match v with
      | 0 => .inr (.inl ((jm_mi mi).2.2.2.2.2.2, mi, as, rest))
      | _ => jm_callv mi M as rest
    | _, _ => jm_bad M
  | _, _ => jm_bad M
/-- the law's own methods: a call that may throw, its answer put into the row of one -/
def jm_wr1 (mi : Nat) (st : List jm_V) (M : jm_Mem) : jm_Eff := match st with
  | [.inr (.inl 94), .inl a, .inr (.inl 0)] => .inr (.inl (2, mi, [.inr (.inl 0), .inl a], []))
  | _ => jm_bad M
def jm_wr2 (mi : Nat) (st : List jm_V) (M : jm_Mem) : jm_Eff := match st with
  | [.inr (.inl 94), .inl b, .inl a, .inr (.inl 0)] => .inr (.inl (2, mi, [.inr (.inl 0), .inl a, .inl b], []))
  | _ => jm_bad M
/-- static calls: copies of rows, the law's spelling (one row of five made), then methods -/
def jm_stat (k mi : Nat) (ls : jm_Ls) (st : List jm_V) (M : jm_Mem) : jm_Eff := match mi with
  | 900 => match st with
    | .inl n :: .inl dp :: .inr (.inl d) :: .inl sp :: .inr (.inl s) :: r => match jm_sh s, jm_sh d, jm_fit r, Nat.beq s d with
      | (0, ns, _), (0, nd, _), true, false => jm_gs [0 ≤ sp, 0 ≤ dp, 0 ≤ n, sp + n ≤ (ns : Int), dp + n ≤ (nd : Int)] (k + 1) ls r (jm_sr M d (jm_cpy (M s) (M d) sp dp n))
      | _, _, _, _ => jm_bad M
    | _ => jm_bad M
  | 903 => match st with
    | .inl e :: .inl d :: .inl c :: .inl b :: .inl a :: r => match jm_fit r with
      | true => jm_gs [0 ≤ a ∧ a ≤ 255, 0 ≤ b ∧ b ≤ 255, 0 ≤ c ∧ c ≤ 255, 0 ≤ d ∧ d ≤ 255, 0 ≤ e ∧ e ≤ 255] (k + 1) ls (.inr (.inr (jm_spelt a b c d e)) :: r) (jm_gh M 1 5)
      | false => jm_bad M
    | _ => jm_bad M
  | 904 => match st with
    | .inl y :: .inl x :: r => match jm_fit r with
      | true => jm_go (k + 1) ls (.inl (if x < y then y else x) :: r) M
      | false => jm_bad M
    | _ => jm_bad M
  | 905 => match st with
    | .inl y :: .inl x :: r => match jm_fit r with
      | true => jm_go (k + 1) ls (.inl (if y < x then y else x) :: r) M
      | false => jm_bad M
    | _ => jm_bad M
  | 910 => jm_wr1 89 st M
  | 911 => jm_wr2 90 st M
  | 912 => jm_wr1 93 st M
  | 913 => jm_wr1 96 st M
  | 914 => jm_wr2 97 st M
  | 915 => jm_wr1 99 st M
  | mi => jm_call mi 0 st M
def jm_virt (k mi : Nat) (ls : jm_Ls) (st : List jm_V) (M : jm_Mem) : jm_Eff := match mi with
  | 901 => match st with
    | .inr (.inl c) :: r => match Nat.ble 200 c, Nat.ble c 205, jm_fit r with
      | true, true, true => jm_go (k + 1) ls (.inl ((jm_str (c - 200)).length : Int) :: r) M
      | _, _, _ => jm_bad M
    | _ => jm_bad M
  | 902 => match st with
    | .inl i :: .inr (.inl c) :: r => match Nat.ble 200 c, Nat.ble c 205, jm_fit r with
      | true, true, true => jm_gs [0 ≤ i, i < ((jm_str (c - 200)).length : Int)] (k + 1) ls (.inl (jm_chr (jm_str (c - 200)) i.toNat) :: r) M
      | _, _, _ => jm_bad M
    | _ => jm_bad M
  | mi => jm_call mi 1 st M
def jm_ef (e : Instr × Nat × Int) (k : Nat) (ls : jm_Ls) (st : List jm_V) (M : jm_Mem) : jm_Eff := match e.1 with
  | .aload_n n => jm_ldA k ls st M n.val
  | .aload n => jm_ldA k ls st M n
  | .iload_n n => jm_ldI k ls st M n.val
  | .iload n => jm_ldI k ls st M n
  | .lload_n n => jm_ldL k ls st M n.val
  | .istore_n n => jm_stI k ls st M n.val
  | .istore n => jm_stI k ls st M n
  | .astore_n n => jm_stA k ls st M n.val
  | .astore n => jm_stA k ls st M n
  | .iconst _ => jm_go (k + 1) ls (.inl e.2.2 :: st) M
  | .bipush _ => jm_go (k + 1) ls (.inl e.2.2 :: st) M
  | .sipush _ => jm_go (k + 1) ls (.inl e.2.2 :: st) M
  | .ldc _ => match e.2.1 with
    | 0 => jm_go (k + 1) ls (.inl e.2.2 :: st) M
    | s + 1 => jm_go (k + 1) ls (.inr (.inl (200 + s)) :: st) M
  | .ldc_w _ => jm_go (k + 1) ls (.inl e.2.2 :: st) M
  | .ldc2_w _ => jm_go (k + 1) ls (.inr (.inr e.2.2) :: st) M
  | .lconst _ => jm_go (k + 1) ls (.inr (.inr 0) :: st) M
  | .getfield _ => jm_get k e.2.1 e.2.2.toNat ls st M
  | .putfield _ => jm_put k e.2.1 e.2.2.toNat ls st M
  | .iaload => match st with
    | .inl i :: .inr (.inl c) :: r => jm_ald k ls M c i r
    | _ => jm_bad M
  | .baload => match st with
    | .inl i :: .inr (.inl c) :: r => jm_bld k ls M c i r
    | _ => jm_bad M
  | .laload => match st with
    | .inl i :: .inr (.inl c) :: r => match jm_sh c with
      | (3, n, _) => jm_gs [0 ≤ i, i < (n : Int)] (k + 1) ls (.inr (.inr (M c i)) :: r) M
      | _ => jm_bad M
    | _ => jm_bad M
  | .aaload => match st with
    | .inl i :: .inr (.inl c) :: r => match jm_sh c with
      | (4, 2, [a, b]) => .inl ([0 ≤ i, i < 2], [(i = 0, (k + 1, ls, .inr (.inl a) :: r, M))], (k + 1, ls, .inr (.inl b) :: r, M))
      | _ => jm_bad M
    | _ => jm_bad M
  | .iastore => match st with
    | .inl v :: .inl i :: .inr (.inl c) :: r => match jm_sh c with
      | (0, n, _) => jm_gs [0 ≤ i, i < (n : Int)] (k + 1) ls r (jm_st M c i v)
      | _ => jm_bad M
    | _ => jm_bad M
  | .bastore => match st with
    | .inl v :: .inl i :: .inr (.inl c) :: r => match jm_sh c with
      | (1, n, _) => jm_gs [0 ≤ i, i < (n : Int), 0 ≤ v, v ≤ 1] (k + 1) ls r (jm_st M c i v)
      | (2, n, _) => jm_gs [0 ≤ i, i < (n : Int), -128 ≤ v, v ≤ 127] (k + 1) ls r (jm_st M c i v)
      | _ => jm_bad M
    | _ => jm_bad M
  | .arraylength => match st with
    | .inr (.inl c) :: r => match Nat.beq c 998, jm_sh c with
      | true, _ => jm_go (k + 1) ls (.inl (M 998 (-1)) :: r) M
      | false, (0, n, _) => jm_go (k + 1) ls (.inl (n : Int) :: r) M
      | _, _ => jm_bad M
    | _ => jm_bad M
  | .iadd => jm_b2 M st fun x y r => jm_gs [jm_in (x + y)] (k + 1) ls (.inl (x + y) :: r) M
  | .isub => jm_b2 M st fun x y r => jm_gs [jm_in (x - y)] (k + 1) ls (.inl (x - y) :: r) M
  | .imul => jm_b2 M st fun x y r => jm_gs [jm_in (x * y)] (k + 1) ls (.inl (x * y) :: r) M
  | .idiv => jm_b2 M st fun x y r => jm_gs [0 < y] (k + 1) ls (.inl (jm_dv x y) :: r) M
  | .irem => jm_b2 M st fun x y r => jm_gs [0 < y] (k + 1) ls (.inl (jm_rm x y) :: r) M
  | .ineg => jm_u1 M st fun x r => jm_gs [jm_in (-x)] (k + 1) ls (.inl (-x) :: r) M
  | .iand => jm_b2 M st fun x y r => jm_gs [y = 1 ∨ y = 31 ∨ y = 255 ∨ y = 4095] (k + 1) ls (.inl (x % (y + 1)) :: r) M
  | .ior => jm_b2 M st fun x y r => jm_gs [0 ≤ x, 0 ≤ y] (k + 1) ls (.inl (jm_or x y) :: r) M
  | .ishr => jm_b2 M st fun x y r => jm_gs [0 ≤ y, y ≤ 31] (k + 1) ls (.inl (x / 2 ^ y.toNat) :: r) M
  | .ishl => jm_b2 M st fun x y r => jm_gs [x = 1, 0 ≤ y, y ≤ 30] (k + 1) ls (.inl (2 ^ y.toNat) :: r) M
  | .i2b => jm_u1 M st fun x r => jm_go (k + 1) ls (.inl (jm_byte x) :: r) M
  | .i2l => jm_u1 M st fun x r => jm_go (k + 1) ls (.inr (.inr x) :: r) M
  | .ladd => jm_l2 M st fun x y r => jm_gs [jm_in (x + y)] (k + 1) ls (.inr (.inr (x + y)) :: r) M
  | .lsub => jm_l2 M st fun x y r => jm_gs [jm_in (x - y)] (k + 1) ls (.inr (.inr (x - y)) :: r) M
  | .lmul => jm_l2 M st fun x y r => jm_gs [jm_in (x * y)] (k + 1) ls (.inr (.inr (x * y)) :: r) M
  | .lcmp => jm_l2 M st fun x y r => jm_go (k + 1) ls (.inl (jm_cmp x y) :: r) M
  | .iinc i _ => match jm_lg ls i with
    | some (.inl x) => jm_gs [jm_in (x + e.2.2)] (k + 1) (jm_ls ls i (.inl (x + e.2.2))) st M
    | _ => jm_bad M
  | .dup => match st with
    | .inl x :: r => jm_go (k + 1) ls (.inl x :: .inl x :: r) M
    | .inr (.inl x) :: r => jm_go (k + 1) ls (.inr (.inl x) :: .inr (.inl x) :: r) M
    | _ => jm_bad M
  | .dup2 => match st with
    | .inl y :: .inr (.inl x) :: r => jm_go (k + 1) ls (.inl y :: .inr (.inl x) :: .inl y :: .inr (.inl x) :: r) M
    | _ => jm_bad M
  | .pop => match st with
    | .inl _ :: r => jm_go (k + 1) ls r M
    | _ => jm_bad M
  | .goto _ => jm_go e.2.1 ls st M
  | .ifCond c _ => jm_i1 k c e.2.1 ls st M
  | .if_icmp c _ => jm_i2 k c e.2.1 ls st M
  | .tableswitch _ _ _ _ => match st with
    | .inl x :: r => match jm_sw e.2.1 with
      | d :: ts => .inl ([], jm_swl x 0 ts ls r M, (d, ls, r, M))
      | [] => jm_bad M
    | _ => jm_bad M
  | .invokestatic _ => jm_stat k e.2.1 ls st M
  | .invokevirtual _ => jm_virt k e.2.1 ls st M
  | .ireturn => match st with
    | [.inl x] => match e.2.1 with
      | 0 => .inr (.inr ([], some (.inl x), M))
      | _ => .inr (.inr ([0 ≤ x, x ≤ 1], some (.inl x), M))
    | _ => jm_bad M
  | .return_ => match st with
    | [] => .inr (.inr ([], none, M))
    | _ => jm_bad M
  | .new _ => match st with
    | [] => .inr (.inr ([], jm_thr, M))
    | _ => jm_bad M
  | _ => jm_bad M
def jm_wp : Nat → Nat → jm_Cfg → jm_Q → Prop
  | 0, _, _, _ => False
  | n + 1, m, c, Q => match jm_rc m c.1 with
    | none => False
    | some e => jm_do (fun mi as M Q => jm_wp n mi (0, jm_pad as (jm_mi mi).2.2.2.1, [], M) Q) (fun c' => jm_wp n m c' Q) Q c.1 c.2.1 c.2.2.2 (jm_ef e c.1 c.2.1 c.2.2.1 c.2.2.2)
/-- from this place the method m comes to an end with Q -/
def jm_run (m : Nat) (c : jm_Cfg) (Q : jm_Q) : Prop := ∃ n, jm_wp n m c Q
/-- a call of m comes to an end with Q -/
def jm_cl (m : Nat) (as : List jm_V) (M : jm_Mem) (Q : jm_Q) : Prop := jm_run m (0, jm_pad as (jm_mi m).2.2.2.1, [], M) Q
