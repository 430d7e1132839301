/-! THE TABLES ARE RIGHT: links, methods, fields by their places; every row of code as it is decoded -/
def jm_g : List Cond := lw_tbl.filter goodWord
theorem jm_in_g {w : Cond} (i : Nat) (h : lw_tbl[i]? = some w) (hg : goodWord w = true) : w ∈ jm_g := List.mem_filter.mpr ⟨List.mem_of_getElem? h, hg⟩
theorem jm_g_in {w : Cond} (h : w ∈ jm_g) : w ∈ lw_tbl := (List.mem_filter.mp h).1
theorem jm_g_good : GoodIn jm_g jm_g := fun w h => ⟨h, good_of_word (List.mem_filter.mp h).2⟩
set_option maxRecDepth 100000 in
theorem jm_fl_ok : ∀ q ∈ jm_flT, lw_tbl[q.2.2.2.2]? = some (.fieldLink (jm_cn q.1) q.2.1 (jm_cn q.2.2.1) (jm_tt q.2.2.1 q.2.2.2.1).2.1 (jm_tt q.2.2.1 q.2.2.2.1).2.2.1) := by decide +kernel
set_option maxRecDepth 100000 in
theorem jm_fl_lt : ∀ q ∈ jm_flT, q.2.2.2.1 < jm_nf q.2.2.1 := by decide +kernel
set_option maxRecDepth 100000 in
theorem jm_ml_ok : ∀ q ∈ jm_mlT, lw_tbl[q.2.2.2]? = some (.methodLink (jm_cn q.1) q.2.1 (jm_y q.2.2.1)) := by decide +kernel
set_option maxRecDepth 100000 in
theorem jm_kc_ok : ∀ q ∈ jm_kcT, lw_tbl[q.2.2.2]? = some (.constant (jm_cn q.1) q.2.1 (Int32.ofInt q.2.2.1)) := by decide +kernel
set_option maxRecDepth 100000 in
theorem jm_k2_ok : ∀ q ∈ jm_k2T, lw_tbl[q.2.2.2]? = some (.constantLong (jm_cn q.1) q.2.1 (Int64.ofInt q.2.2.1)) := by decide +kernel
set_option maxRecDepth 100000 in
theorem jm_mv_ok : ∀ m, m < 216 → (jm_mi m).2.1 = 1 → lw_tbl[(jm_mp m).2.1]? = some (.instanceMethod (jm_y m)) ∧ lw_tbl[(jm_mp m).2.2.1]? = some (.selects (jm_y m).cls (jm_y m) (jm_y m)) := by decide +kernel
set_option maxRecDepth 100000 in
theorem jm_ms_ok : ∀ m, m < 216 → (jm_mi m).2.1 = 0 → lw_tbl[(jm_mp m).2.1]? = some (.static (jm_y m)) := by decide +kernel
set_option maxRecDepth 100000 in
theorem jm_mn_ok : ∀ m, m < 216 → lw_tbl[(jm_mp m).2.2.2]? = some (.initialized (jm_y m).cls) ∧ (jm_y m).cls = jm_cn (jm_mi m).1 ∧ (jm_y m).cls ≠ "java/lang/invoke/MethodHandle" ∧ (jm_y m).cls ≠ "java/lang/invoke/VarHandle" ∧ (parseMethodDescriptor (jm_y m).desc).map (fun d => d.parameters.length + (jm_mi m).2.1) = some (jm_mi m).2.2.1 ∧ plainName (jm_y m).cls = true := by decide +kernel
set_option maxRecDepth 100000 in
theorem jm_fp_ok : ∀ c, c < 11 → ∀ k, k < jm_nf c → lw_tbl[jm_fp c k]? = some (u_lay (jm_cn c) (jm_tt c) k) := by decide +kernel
theorem jm_cl_ok : ∀ c, c < 11 → vwCl[c]? = some (jm_cn c, jm_tt c, jm_nf c) := by
  intro c hc
  match c, hc with
  | 0, _ => rfl
  | 1, _ => rfl
  | 2, _ => rfl
  | 3, _ => rfl
  | 4, _ => rfl
  | 5, _ => rfl
  | 6, _ => rfl
  | 7, _ => rfl
  | 8, _ => rfl
  | 9, _ => rfl
  | 10, _ => rfl
  | c + 11, h => exact absurd h (by omega)
theorem jm_ty_ok : ∀ c, c < 11 → ∀ k, k < jm_nf c → parseFieldDescriptor (jm_tt c k).2.2.1 = some (jm_ty c k) := by decide +kernel
theorem jm_nm_ok : ∀ c, c < 11 → ∀ a, a < jm_nf c → ∀ b, b < jm_nf c → a ≠ b → (jm_tt c a).2.1 ≠ (jm_tt c b).2.1 := by decide +kernel
/-- shapes: an object's class, as many codes as fields, codes as the fields' types are, numbers not final; rows of references -/
def jm_shk (c : Nat) : Bool := match jm_sh c with
  | (k, n, fs) => match Nat.ble 10 k with
    | true => Nat.blt k 21 && (Nat.beq n (jm_nf (k - 10)) && (Nat.beq fs.length n && (List.range n).all (fun j => match fs.getD j 0 with
      | 0 => decide (jm_ty (k - 10) j = .int ∧ (jm_tt (k - 10) j).2.2.2 = false)
      | 1 => decide (jm_ty (k - 10) j = .long ∧ (jm_tt (k - 10) j).2.2.2 = false)
      | 2 => decide (jm_ty (k - 10) j = .boolean ∧ (jm_tt (k - 10) j).2.2.2 = false)
      | t + 3 => Nat.blt t 95)))
    | false => Nat.blt k 5
theorem jm_sh_ok : ∀ c, c < 95 → jm_shk c = true := by decide +kernel
theorem jm_sh_out : ∀ c, 95 ≤ c → jm_sh c = (99, 0, []) := by
  intro c hc
  have h : ∀ {α : Type} (l : List α) (n : Nat), l.length ≤ n → jm_nth l n = none := by
    intro α l
    induction l with
    | nil => intro n _; rfl
    | cons a l ih =>
      intro n hn
      cases n with
      | zero => exact absurd hn (by simp)
      | succ n => exact ih n (by simpa using hn)
  unfold jm_sh
  rw [h jm_shT c (by exact hc)]
def jm_len (e : Instr × Nat × Int) : Nat := match e.1 with
  | .aload _ => 2
  | .iload _ => 2
  | .istore _ => 2
  | .astore _ => 2
  | .bipush _ => 2
  | .ldc _ => 2
  | .iinc _ _ => 3
  | .sipush _ => 3
  | .goto _ => 3
  | .ifCond _ _ => 3
  | .if_icmp _ _ => 3
  | .getfield _ => 3
  | .putfield _ => 3
  | .invokestatic _ => 3
  | .invokevirtual _ => 3
  | .invokespecial _ => 3
  | .ldc_w _ => 3
  | .ldc2_w _ => 3
  | .new _ => 3
  | .tableswitch _ _ _ _ => e.2.2.toNat
  | _ => 1
/-- where a row leads on -/
def jm_ck1 (m k : Nat) (e : Instr × Nat × Int) : Bool := match e.1 with
  | .goto off => decide ((jm_bp m e.2.1 : Int) = (jm_bp m k : Int) + off)
  | .ifCond _ off => decide ((jm_bp m e.2.1 : Int) = (jm_bp m k : Int) + off) && Nat.beq (jm_bp m (k + 1)) (jm_bp m k + 3)
  | .if_icmp _ off => decide ((jm_bp m e.2.1 : Int) = (jm_bp m k : Int) + off) && Nat.beq (jm_bp m (k + 1)) (jm_bp m k + 3)
  | .tableswitch d lo hi offs => match jm_sw e.2.1 with
    | t :: ts => decide (lo = 0) && (decide (hi + 1 = ts.length) && (decide ((jm_bp m t : Int) = (jm_bp m k : Int) + d) && decide (offs.toList = ts.map (fun t => (jm_bp m t : Int) - (jm_bp m k : Int)))))
    | [] => false
  | .ireturn => true
  | .return_ => true
  | .athrow => true
  | _ => Nat.beq (jm_bp m (k + 1)) (jm_bp m k + jm_len e)
/-- what a row names -/
def jm_ck2 (m : Nat) (e : Instr × Nat × Int) : Bool := match e.1 with
  | .istore_n i => Nat.blt i.val (jm_mi m).2.2.2.1 && !(Nat.beq m 140)
  | .istore i => Nat.blt i (jm_mi m).2.2.2.1 && !(Nat.beq m 140)
  | .astore_n i => Nat.blt i.val (jm_mi m).2.2.2.1 && !(Nat.beq m 140)
  | .astore i => Nat.blt i (jm_mi m).2.2.2.1 && !(Nat.beq m 140)
  | .iinc i n => Nat.blt i (jm_mi m).2.2.2.1 && (!(Nat.beq m 140) && decide (n = e.2.2))
  | .iconst n => decide (n = e.2.2 ∧ -1 ≤ n ∧ n ≤ 5)
  | .bipush n => decide (n = e.2.2 ∧ -128 ≤ n ∧ n ≤ 127)
  | .sipush n => decide (n = e.2.2 ∧ -32768 ≤ n ∧ n ≤ 32767)
  | .lconst n => decide (n = 0)
  | .ldc i => match e.2.1 with
    | 0 => jm_kcT.any (fun q => Nat.beq q.1 (jm_mi m).1 && (Nat.beq q.2.1 i && decide (q.2.2.1 = e.2.2))) && decide (-2147483648 ≤ e.2.2 ∧ e.2.2 ≤ 2147483647)
    | 100 => false
    | s + 1 => Nat.beq (jm_mi m).1 7 && (Nat.blt s 6 && Nat.beq i ([45, 64, 69, 75, 77, 79].getD s 0))
  | .ldc_w i => jm_kcT.any (fun q => Nat.beq q.1 (jm_mi m).1 && (Nat.beq q.2.1 i && decide (q.2.2.1 = e.2.2))) && decide (-2147483648 ≤ e.2.2 ∧ e.2.2 ≤ 2147483647)
  | .ldc2_w i => jm_k2T.any (fun q => Nat.beq q.1 (jm_mi m).1 && (Nat.beq q.2.1 i && decide (q.2.2.1 = e.2.2))) && decide (-2147483648 ≤ e.2.2 ∧ e.2.2 ≤ 2147483647)
  | .getfield i => jm_flT.any (fun q => Nat.beq q.1 (jm_mi m).1 && (Nat.beq q.2.1 i && (Nat.beq q.2.2.1 e.2.2.toNat && Nat.beq q.2.2.2.1 e.2.1)))
  | .putfield i => jm_flT.any (fun q => Nat.beq q.1 (jm_mi m).1 && (Nat.beq q.2.1 i && (Nat.beq q.2.2.1 e.2.2.toNat && Nat.beq q.2.2.2.1 e.2.1)))
  | .invokestatic i => match Nat.blt e.2.1 216 with
    | true => jm_mlT.any (fun q => Nat.beq q.1 (jm_mi m).1 && (Nat.beq q.2.1 i && Nat.beq q.2.2.1 e.2.1)) && (Nat.ble ((jm_mi e.2.1).2.2.2.2.1 + 1) (jm_mi m).2.2.2.2.1 && Nat.ble (8 + ((jm_mi e.2.1).2.2.2.1 + 11) + (jm_mi e.2.1).2.2.2.2.2.1) (jm_mi m).2.2.2.2.2.1)
    | false => jm_mbT.any (fun q => Nat.beq q.1 (jm_mi m).1 && (Nat.beq q.2.1 i && Nat.beq q.2.2.1 e.2.1)) && (Nat.ble 1 (jm_mi m).2.2.2.2.1 && Nat.ble 48 (jm_mi m).2.2.2.2.2.1)
  | .invokevirtual i => match Nat.blt e.2.1 216 with
    | true => jm_mlT.any (fun q => Nat.beq q.1 (jm_mi m).1 && (Nat.beq q.2.1 i && Nat.beq q.2.2.1 e.2.1)) && (Nat.ble ((jm_mi e.2.1).2.2.2.2.1 + 1) (jm_mi m).2.2.2.2.1 && Nat.ble (8 + ((jm_mi e.2.1).2.2.2.1 + 11) + (jm_mi e.2.1).2.2.2.2.2.1) (jm_mi m).2.2.2.2.2.1)
    | false => jm_mbT.any (fun q => Nat.beq q.1 (jm_mi m).1 && (Nat.beq q.2.1 i && Nat.beq q.2.2.1 e.2.1)) && (Nat.ble 5 (jm_mi m).2.2.2.2.1 && Nat.ble 160 (jm_mi m).2.2.2.2.2.1)
  | .ireturn => match e.2.1 with
    | 0 => decide (jm_r m = some .int)
    | _ => decide (jm_r m = some .boolean)
  | .return_ => decide (jm_r m = none)
  | _ => true
def jm_ck (m k : Nat) (e : Instr × Nat × Int) : Bool := match e.1 with
  | .nop => true
  | i => decide (decode (jm_b m) (jm_bp m k) = .ok (i, jm_len e)) && (jm_ck1 m k e && jm_ck2 m e)
def jm_ckL (m : Nat) : Nat → List (Instr × Nat × Int) → Bool
  | _, [] => true
  | k, e :: l => jm_ck m k e && jm_ckL m (k + 1) l
