/-! NUMBERS: whole numbers within bounds, and the machine's -/
theorem jn_toInt {x : Int} (h : jm_in x) : (Int32.ofInt x).toInt = x := Int32.toInt_ofInt_of_le (by have := h.1; omega) (by have := h.2; omega)
theorem jn_lt {x y : Int} (hx : jm_in x) (hy : jm_in y) : Int32.ofInt x < Int32.ofInt y ↔ x < y := by
  rw [Int32.lt_iff_toInt_lt, jn_toInt hx, jn_toInt hy]
theorem jn_le {x y : Int} (hx : jm_in x) (hy : jm_in y) : Int32.ofInt x ≤ Int32.ofInt y ↔ x ≤ y := by
  rw [Int32.le_iff_toInt_le, jn_toInt hx, jn_toInt hy]
theorem jn_eq {x y : Int} (hx : jm_in x) (hy : jm_in y) : Int32.ofInt x = Int32.ofInt y ↔ x = y := by
  constructor
  · intro h
    rw [← jn_toInt hx, ← jn_toInt hy, h]
  · intro h; rw [h]
theorem jn_0 : Int32.ofInt 0 = 0 := rfl
theorem jn_in0 : jm_in 0 := ⟨by decide, by decide⟩
theorem jn_clamp {x : Int} (h : jm_in x) : (Int32.ofInt x).toNatClampNeg = x.toNat := by
  show (Int32.ofInt x).toInt.toNat = x.toNat
  rw [jn_toInt h]
theorem jn_vp {x : Int} {n : Nat} (h : jm_in x) (h0 : 0 ≤ x) (h1 : x < (n : Int)) : vp_in (Int32.ofInt x) n := vp_in_iff.mpr ⟨by rw [jn_toInt h]; exact h0, by rw [jn_toInt h]; exact h1⟩
theorem jn_dv {x y : Int} (hx : jm_in x) (hy : jm_in y) (h0 : 0 < y) : Int32.ofInt x / Int32.ofInt y = Int32.ofInt (jm_dv x y) ∧ jm_in (jm_dv x y) := by
  have e : jm_dv x y = x.tdiv y := by
    unfold jm_dv
    by_cases h : 0 ≤ x
    · rw [if_pos h, Int.tdiv_eq_ediv_of_nonneg h]
    · rw [if_neg h]
      have := Int.neg_tdiv (a := -x) (b := y)
      rw [Int.neg_neg] at this
      rw [this, Int.tdiv_eq_ediv_of_nonneg (by omega)]
  have hb : Int32.ofInt y ≠ -1 := by
    intro h
    have h1 := congrArg Int32.toInt h
    rw [jn_toInt hy] at h1
    have h2 : (-1 : Int32).toInt = -1 := rfl
    omega
  have hr : jm_in (jm_dv x y) := by
    unfold jm_dv
    have b1 : ∀ z : Int, 0 ≤ z → 0 ≤ z / y ∧ z / y ≤ z := fun z hz => ⟨Int.ediv_nonneg hz (by omega), Int.ediv_le_self _ hz⟩
    have hx1 := hx.1
    have hx2 := hx.2
    by_cases h : 0 ≤ x
    · rw [if_pos h]
      have := b1 x h
      exact ⟨by omega, by omega⟩
    · rw [if_neg h]
      have := b1 (-x) (by omega)
      exact ⟨by omega, by omega⟩
  refine ⟨?_, hr⟩
  apply Int32.toInt_inj.mp
  rw [Int32.toInt_div_of_ne_right _ _ hb, jn_toInt hx, jn_toInt hy, jn_toInt hr, e]
theorem jn_rm {x y : Int} (hx : jm_in x) (hy : jm_in y) (h0 : 0 < y) : Int32.ofInt x - Int32.ofInt x / Int32.ofInt y * Int32.ofInt y = Int32.ofInt (jm_rm x y) ∧ jm_in (jm_rm x y) := by
  have e : jm_rm x y = x - jm_dv x y * y := by
    unfold jm_rm jm_dv
    by_cases h : 0 ≤ x
    · rw [if_pos h, if_pos h, Int.emod_def, Int.mul_comm]
    · rw [if_neg h, if_neg h, Int.emod_def, Int.neg_mul, Int.mul_comm]
      omega
  refine ⟨by rw [(jn_dv hx hy h0).1, e, Int32.ofInt_sub, Int32.ofInt_mul], ?_⟩
  unfold jm_rm
  have b1 : ∀ z : Int, 0 ≤ z % y ∧ z % y < y := fun z => ⟨Int.emod_nonneg _ (by omega), Int.emod_lt_of_pos _ h0⟩
  have hy1 := hy.1
  have hy2 := hy.2
  by_cases h : 0 ≤ x
  · rw [if_pos h]; have := b1 x; exact ⟨by omega, by omega⟩
  · rw [if_neg h]; have := b1 (-x); exact ⟨by omega, by omega⟩
theorem jn_andk (x : Int) (k : Nat) (hk : k ≤ 12) {y : Int} (hy : y = 2 ^ k - 1) : Int32.ofInt x &&& Int32.ofInt y = Int32.ofInt (x % 2 ^ k) := by
  have hm : (Int32.ofInt y).toBitVec.toNat = 2 ^ k - 1 := by
    subst hy
    match k, hk with
    | 0, _ => rfl
    | 1, _ => rfl
    | 2, _ => rfl
    | 3, _ => rfl
    | 4, _ => rfl
    | 5, _ => rfl
    | 6, _ => rfl
    | 7, _ => rfl
    | 8, _ => rfl
    | 9, _ => rfl
    | 10, _ => rfl
    | 11, _ => rfl
    | 12, _ => rfl
    | k + 13, h => exact absurd h (by omega)
  rw [pk_and _ k hm]
  show Int32.ofNat _ = _
  rw [← Int32.ofInt_eq_ofNat]
  congr 1
  rw [Int32.toBitVec_ofInt, BitVec.toNat_ofInt]
  have hd : (2 ^ k : Int) ∣ (2 ^ 32 : Nat) := by
    refine ⟨(2 ^ (32 - k) : Nat), ?_⟩
    have : (2 : Nat) ^ 32 = 2 ^ k * 2 ^ (32 - k) := by rw [← Nat.pow_add]; congr 1; omega
    exact_mod_cast this
  have h0 : 0 ≤ x % ((2 ^ 32 : Nat) : Int) := Int.emod_nonneg _ (by decide)
  rw [Int.natCast_emod, Int.toNat_of_nonneg h0]
  have : ((2 ^ k : Nat) : Int) = (2 ^ k : Int) := by norm_cast
  rw [this, Int.emod_emod_of_dvd _ hd]
theorem jn_and {x y : Int} (hy : y = 1 ∨ y = 31 ∨ y = 255 ∨ y = 4095) : Int32.ofInt x &&& Int32.ofInt y = Int32.ofInt (x % (y + 1)) ∧ jm_in (x % (y + 1)) := by
  refine ⟨?_, ?_⟩
  · rcases hy with rfl | rfl | rfl | rfl
    · exact jn_andk x 1 (by decide) rfl
    · exact jn_andk x 5 (by decide) rfl
    · exact jn_andk x 8 (by decide) rfl
    · exact jn_andk x 12 (by decide) rfl
  · have h1 := Int.emod_nonneg x (b := y + 1) (by omega)
    have h2 := Int.emod_lt_of_pos x (b := y + 1) (by omega)
    exact ⟨by omega, by omega⟩
theorem jn_or {x y : Int} (hx : jm_in x) (hy : jm_in y) (h0 : 0 ≤ x) (h1 : 0 ≤ y) : Int32.ofInt x ||| Int32.ofInt y = Int32.ofInt (jm_or x y) ∧ jm_in (jm_or x y) := by
  have hx2 := hx.2
  have hy2 := hy.2
  obtain ⟨a, rfl⟩ := Int.eq_ofNat_of_zero_le h0
  obtain ⟨b, rfl⟩ := Int.eq_ofNat_of_zero_le h1
  unfold jm_or
  simp only [Int.toNat_natCast]
  refine ⟨?_, ⟨by omega, ?_⟩⟩
  · rw [Int32.ofInt_eq_ofNat, Int32.ofInt_eq_ofNat, Int32.ofInt_eq_ofNat]
    apply Int32.toBitVec_inj.mp
    rw [Int32.toBitVec_or]
    show BitVec.ofNat 32 a ||| BitVec.ofNat 32 b = BitVec.ofNat 32 (a ||| b)
    apply BitVec.eq_of_toNat_eq
    simp [BitVec.toNat_or]
  · have h31 : a ||| b < 2 ^ 31 := Nat.or_lt_two_pow (by omega) (by omega)
    have : (2 : Nat) ^ 31 = 2147483648 := by decide
    omega
theorem jn_shr {x y : Int} (hx : jm_in x) (h0 : 0 ≤ y) (h1 : y ≤ 31) : Int32.ofInt x >>> (Int32.ofInt y &&& 31) = Int32.ofInt (x / 2 ^ y.toNat) ∧ jm_in (x / 2 ^ y.toNat) := by
  have hy : jm_in y := ⟨by omega, by omega⟩
  obtain ⟨k, rfl⟩ := Int.eq_ofNat_of_zero_le h0
  have hs : ((Int32.ofInt (k : Int) &&& 31).toBitVec.smod 32).toNat = k := by
    have : ∀ n : Nat, n < 32 → ((Int32.ofInt (n : Int) &&& 31).toBitVec.smod 32).toNat = n := by decide +kernel
    exact this k (by omega)
  have hp : (0 : Int) < 2 ^ k := Int.pow_pos (by decide)
  have hp1 : (1 : Int) ≤ 2 ^ k := by omega
  have hr : jm_in (x / 2 ^ k) := by
    have hx1 := hx.1
    have hx2 := hx.2
    constructor
    · rw [Int.le_ediv_iff_mul_le hp]
      have : (2147483648 : Int) * 1 ≤ 2147483648 * 2 ^ k := Int.mul_le_mul_of_nonneg_left hp1 (by decide)
      rw [Int.neg_mul]
      omega
    · have h3 := Int.ediv_mul_le x (b := 2 ^ k) (by omega)
      have h4 : x / 2 ^ k < 2147483648 := by
        rw [Int.ediv_lt_iff_lt_mul hp]
        have : (2147483648 : Int) * 1 ≤ 2147483648 * 2 ^ k := Int.mul_le_mul_of_nonneg_left hp1 (by decide)
        omega
      omega
  refine ⟨?_, hr⟩
  apply Int32.toInt_inj.mp
  rw [pk_shr _ _ k hs, jn_toInt hx, Int.shiftRight_eq_div_pow]
  simp only [Int.toNat_natCast]
  rw [jn_toInt hr]
  norm_cast
theorem jn_shl {y : Int} (h0 : 0 ≤ y) (h1 : y ≤ 30) : Int32.ofInt 1 <<< (Int32.ofInt y &&& 31) = Int32.ofInt (2 ^ y.toNat) ∧ jm_in (2 ^ y.toNat) := by
  obtain ⟨k, rfl⟩ := Int.eq_ofNat_of_zero_le h0
  have h : ∀ n : Nat, n < 31 → Int32.ofInt 1 <<< (Int32.ofInt (n : Int) &&& 31) = Int32.ofInt (2 ^ (n : Int).toNat) ∧ (-2147483648 ≤ (2 : Int) ^ (n : Int).toNat ∧ (2 : Int) ^ (n : Int).toNat ≤ 2147483647) := by decide +kernel
  exact h k (by omega)
theorem jn_byte (x : Int) : (Int32.ofInt x).toInt8.toInt32 = Int32.ofInt (jm_byte x) ∧ -128 ≤ jm_byte x ∧ jm_byte x ≤ 127 := by
  have hb : -128 ≤ jm_byte x ∧ jm_byte x ≤ 127 := by
    unfold jm_byte
    omega
  refine ⟨?_, hb⟩
  have e : jm_byte x = x.bmod (2 ^ 8) := by
    unfold jm_byte
    rw [Int.bmod_def]
    have : (((2 ^ 8 : Nat) : Int)) = 256 := by decide
    rw [this]
    split <;> omega
  apply Int32.toInt_inj.mp
  rw [jn_toInt ⟨by omega, by omega⟩, Int8.toInt_toInt32, Int32.toInt8_ofInt, Int8.toInt_ofInt, e]
theorem jn_long {x : Int} (h : jm_in x) : (Int32.ofInt x).toInt64 = Int64.ofInt x := Int32.toInt64_ofInt h.1 h.2
theorem jl_toInt {x : Int} (h : jm_in x) : (Int64.ofInt x).toInt = x := Int64.toInt_ofInt_of_le (by have := h.1; omega) (by have := h.2; omega)
theorem jl_cmp {x y : Int} (hx : jm_in x) (hy : jm_in y) : lg_cmp (Int64.ofInt x) (Int64.ofInt y) = Int32.ofInt (jm_cmp x y) ∧ jm_in (jm_cmp x y) := by
  unfold lg_cmp jm_cmp
  have h1 : Int64.ofInt x > Int64.ofInt y ↔ x > y := by
    show Int64.ofInt y < Int64.ofInt x ↔ _
    rw [Int64.lt_iff_toInt_lt, jl_toInt hx, jl_toInt hy]
  have h2 : Int64.ofInt x = Int64.ofInt y ↔ x = y := by
    constructor
    · intro h; rw [← jl_toInt hx, ← jl_toInt hy, h]
    · intro h; rw [h]
  by_cases a : x < y
  · rw [if_neg (by rw [h1]; omega), if_neg (by rw [h2]; omega), if_pos a]
    exact ⟨rfl, by decide, by decide⟩
  · rw [if_neg a]
    by_cases b : x = y
    · rw [if_neg (by rw [h1]; omega), if_pos (h2.mpr b), if_pos b]
      exact ⟨rfl, by decide, by decide⟩
    · rw [if_pos (h1.mpr (by omega)), if_neg b]
      exact ⟨rfl, by decide, by decide⟩
theorem jn_bipush {n : Int} (h1 : -128 ≤ n) (h2 : n ≤ 127) : (Int8.ofInt n).toInt32 = Int32.ofInt n := Int8.toInt32_ofInt h1 h2
theorem jn_sipush {n : Int} (h1 : -32768 ≤ n) (h2 : n ≤ 32767) : (Int16.ofInt n).toInt32 = Int32.ofInt n := Int16.toInt32_ofInt h1 h2
theorem jn_narZ {x : Int} (h0 : 0 ≤ x) (h1 : x ≤ 1) : narrow .boolean (.int (Int32.ofInt x)) = .int (Int32.ofInt x) ∧ fits .boolean (.int (Int32.ofInt x)) = true ∧ vp_nar .boolean (Int32.ofInt x) = Int32.ofInt x := by
  have : x = 0 ∨ x = 1 := by omega
  rcases this with rfl | rfl <;> decide
theorem jn_narB {x : Int} (h0 : -128 ≤ x) (h1 : x ≤ 127) : vp_nar .byte (Int32.ofInt x) = Int32.ofInt x := by
  rw [vp_nar_byte, (jn_byte x).1]
  congr 1
  unfold jm_byte
  omega
