/-! TEXTS: tokens -/
def l_go (b : Int → Int) (P : Int → Bool) : Nat → Int → Int
  | 0, p => p
  | k + 1, p => if P (b p) = true then l_go b P k (p + 1) else p
/-- the first place from p on where P ends -/
def l_sk (b : Int → Int) (P : Int → Bool) (n p : Int) : Int := l_go b P (n - p).toNat p
theorem l_sk_y {b : Int → Int} {P : Int → Bool} {n p : Int} (h : p < n) (hp : P (b p) = true) : l_sk b P n p = l_sk b P n (p + 1) := by
  unfold l_sk
  rw [show (n - p).toNat = (n - (p + 1)).toNat + 1 by omega]
  exact if_pos hp
theorem l_sk_n {b : Int → Int} {P : Int → Bool} {n p : Int} (hp : P (b p) = false) : l_sk b P n p = p := by
  unfold l_sk
  cases (n - p).toNat with
  | zero => rfl
  | succ k => exact if_neg (by rw [hp]; simp)
theorem l_sk_z {b : Int → Int} {P : Int → Bool} {n p : Int} (h : n ≤ p) : l_sk b P n p = p := by
  unfold l_sk
  rw [show (n - p).toNat = 0 by omega]
  rfl
theorem l_sk_b {b : Int → Int} {P : Int → Bool} {n : Int} : ∀ p, p ≤ n → p ≤ l_sk b P n p ∧ l_sk b P n p ≤ n := by
  refine jm_dn ?_
  intro p hp ih
  by_cases q : p < n
  · cases hk : P (b p) with
    | true =>
      rw [l_sk_y q hk]
      have := ih q
      omega
    | false => rw [l_sk_n hk]; omega
  · rw [l_sk_z (by omega)]; omega
/-- a step of the loops below -/
theorem l_sk_in {b : Int → Int} {P : Int → Bool} {n p v : Int} (hv : p ≤ v) (h : v < l_sk b P n p) : P (b v) = true ∧ v < n := by
  have : ∀ p, p ≤ v → v < l_sk b P n p → P (b v) = true ∧ v < n := by
    refine jm_dn ?_
    intro p hp ih h
    by_cases q : p < n
    · cases hk : P (b p) with
      | true =>
        rw [l_sk_y q hk] at h
        by_cases z : p = v
        · rw [← z]; exact ⟨hk, q⟩
        · exact ih (by omega) h
      | false => rw [l_sk_n hk] at h; omega
    · rw [l_sk_z (by omega)] at h; omega
  exact this p hv h
def l_w (c : Int) : Bool := decide (c = 32 ∨ c = 10)
def l_l (c : Int) : Bool := decide (97 ≤ c ∧ c ≤ 122)
def l_d (c : Int) : Bool := decide (48 ≤ c ∧ c ≤ 57)
/-- where digits of a number begin -/
def l_q (b : Int → Int) (s : Int) : Int := if b s = 45 then s + 1 else s
def l_dn (b : Int → Int) (n s : Int) : Int := l_sk b l_d n (l_q b s) - l_q b s
def l_kd (b : Int → Int) (n s : Int) : Int := if n ≤ s then 0 else if l_l (b s) = true then 1 else if b s = 59 then 3 else if 1 ≤ l_dn b n s ∧ l_dn b n s ≤ 3 then 2 else 4
def l_en (b : Int → Int) (n s : Int) : Int := if n ≤ s then s else if l_l (b s) = true then l_sk b l_l n s else if b s = 59 then s + 1 else l_sk b l_d n (l_q b s)
def l_dv (b : Int → Int) (q : Int) : Nat → Int
  | 0 => 0
  | k + 1 => 10 * l_dv b q k + (b (q + k) - 48)
def l_va (b : Int → Int) (n s : Int) : Int := if b s = 45 then -(l_dv b (l_q b s) (l_dn b n s).toNat) else l_dv b (l_q b s) (l_dn b n s).toNat
abbrev l_by (b : Int → Int) : Prop := ∀ v, -128 ≤ b v ∧ b v ≤ 127
theorem l_dv_b {b : Int → Int} {q : Int} : ∀ (k : Nat), k ≤ 4 → (∀ v, q ≤ v → v < q + k → l_d (b v) = true) → 0 ≤ l_dv b q k ∧ l_dv b q k ≤ 9999 ∧ (k ≤ 3 → l_dv b q k ≤ 999) ∧ (k ≤ 2 → l_dv b q k ≤ 99) ∧ (k ≤ 1 → l_dv b q k ≤ 9) ∧ (k = 0 → l_dv b q k = 0)
  | 0, _, _ => ⟨by show (0 : Int) ≤ 0; omega, by show (0 : Int) ≤ 9999; omega, fun _ => by show (0 : Int) ≤ 999; omega, fun _ => by show (0 : Int) ≤ 99; omega, fun _ => by show (0 : Int) ≤ 9; omega, fun _ => rfl⟩
  | k + 1, hk, h => by
    have ih := l_dv_b (b := b) (q := q) k (by omega) (fun v a c => h v a (by omega))
    have hd := of_decide_eq_true (h (q + k) (by omega) (by omega))
    have e : l_dv b q (k + 1) = 10 * l_dv b q k + (b (q + k) - 48) := rfl
    rw [e]
    omega
/-- kinds -/
theorem l_kd_b {b : Int → Int} {n s : Int} : 0 ≤ l_kd b n s ∧ l_kd b n s ≤ 4 := by
  unfold l_kd
  by_cases h1 : n ≤ s
  · rw [if_pos h1]; omega
  · rw [if_neg h1]
    by_cases h2 : l_l (b s) = true
    · rw [if_pos h2]; omega
    · rw [if_neg h2]
      by_cases h3 : b s = 59
      · rw [if_pos h3]; omega
      · rw [if_neg h3]
        by_cases h4 : 1 ≤ l_dn b n s ∧ l_dn b n s ≤ 3
        · rw [if_pos h4]; omega
        · rw [if_neg h4]; omega
theorem l_kd_0 {b : Int → Int} {n s : Int} (h : n ≤ s) : l_kd b n s = 0 ∧ l_en b n s = s := ⟨if_pos h, if_pos h⟩
theorem l_kd_1 {b : Int → Int} {n s : Int} (h : s < n) (h1 : l_l (b s) = true) : l_kd b n s = 1 ∧ l_en b n s = l_sk b l_l n s := by
  have hn : ¬ n ≤ s := by omega
  unfold l_kd l_en
  refine ⟨?_, ?_⟩
  · rw [if_neg hn, if_pos h1]
  · rw [if_neg hn, if_pos h1]
theorem l_kd_3 {b : Int → Int} {n s : Int} (h : s < n) (h1 : b s = 59) : l_kd b n s = 3 ∧ l_en b n s = s + 1 := by
  have h2 : ¬ l_l (b s) = true := by rw [h1]; decide
  have hn : ¬ n ≤ s := by omega
  unfold l_kd l_en
  refine ⟨?_, ?_⟩
  · rw [if_neg hn, if_neg h2, if_pos h1]
  · rw [if_neg hn, if_neg h2, if_pos h1]
theorem l_kd_2 {b : Int → Int} {n s : Int} (h : s < n) (h1 : l_l (b s) = false) (h2 : b s ≠ 59) : (l_kd b n s = if 1 ≤ l_dn b n s ∧ l_dn b n s ≤ 3 then 2 else 4) ∧ l_en b n s = l_sk b l_d n (l_q b s) := by
  have h3 : ¬ l_l (b s) = true := by rw [h1]; simp
  have hn : ¬ n ≤ s := by omega
  unfold l_kd l_en
  refine ⟨?_, ?_⟩
  · rw [if_neg hn, if_neg h3, if_neg h2]
  · rw [if_neg hn, if_neg h3, if_neg h2]
theorem l_q_b {b : Int → Int} {n s : Int} (h : s < n) : s ≤ l_q b s ∧ l_q b s ≤ n := by
  unfold l_q
  by_cases q : b s = 45
  · rw [if_pos q]; omega
  · rw [if_neg q]; omega
theorem l_en_b {b : Int → Int} {n s : Int} (h : s ≤ n) : s ≤ l_en b n s ∧ l_en b n s ≤ n := by
  unfold l_en
  by_cases h1 : n ≤ s
  · rw [if_pos h1]; omega
  · rw [if_neg h1]
    by_cases h2 : l_l (b s) = true
    · rw [if_pos h2]; exact l_sk_b s (by omega)
    · rw [if_neg h2]
      by_cases h3 : b s = 59
      · rw [if_pos h3]; omega
      · rw [if_neg h3]
        have h4 := l_q_b (b := b) (s := s) (n := n) (by omega)
        have h5 := l_sk_b (b := b) (P := l_d) (n := n) (l_q b s) h4.2
        omega
/-- the letters of a word, last first -/
def l_rw (b : Int → Int) (s : Int) : Nat → List Int
  | 0 => []
  | k + 1 => b (s + k) :: l_rw b s k
def l_27 : List Int → Int
  | [] => 0
  | c :: l => 27 * l_27 l + c - 96
theorem l_27_b : ∀ (l : List Int), (∀ c ∈ l, 97 ≤ c ∧ c ≤ 122) → 0 ≤ l_27 l
  | [], _ => by show (0 : Int) ≤ 0; omega
  | c :: l, h => by
    have ih := l_27_b l (fun d hd => h d (List.mem_cons_of_mem _ hd))
    have := h c List.mem_cons_self
    show 0 ≤ 27 * l_27 l + c - 96
    omega
theorem l_27_i : ∀ (l l' : List Int), (∀ c ∈ l, 97 ≤ c ∧ c ≤ 122) → (∀ c ∈ l', 97 ≤ c ∧ c ≤ 122) → l_27 l = l_27 l' → l = l'
  | [], [], _, _, _ => rfl
  | [], c :: l, _, h, e => by
    have ih := l_27_b l (fun d hd => h d (List.mem_cons_of_mem _ hd))
    have := h c List.mem_cons_self
    have e : 0 = 27 * l_27 l + c - 96 := e
    omega
  | c :: l, [], h, _, e => by
    have ih := l_27_b l (fun d hd => h d (List.mem_cons_of_mem _ hd))
    have := h c List.mem_cons_self
    have e : 27 * l_27 l + c - 96 = 0 := e
    omega
  | c :: l, d :: m, h, h', e => by
    have a1 := h c List.mem_cons_self
    have a2 := h' d List.mem_cons_self
    have e : 27 * l_27 l + c - 96 = 27 * l_27 m + d - 96 := e
    have e1 : c = d := by omega
    have e2 : l_27 l = l_27 m := by omega
    rw [e1, l_27_i l m (fun x hx => h x (List.mem_cons_of_mem _ hx)) (fun x hx => h' x (List.mem_cons_of_mem _ hx)) e2]
theorem l_rw_len {b : Int → Int} {s : Int} : ∀ (k : Nat), (l_rw b s k).length = k
  | 0 => rfl
  | k + 1 => by show (l_rw b s k).length + 1 = k + 1; rw [l_rw_len k]
theorem l_rw_mem {b : Int → Int} {s : Int} : ∀ (k : Nat) (c : Int), c ∈ l_rw b s k → ∃ v, s ≤ v ∧ v < s + k ∧ b v = c
  | 0, c, h => absurd h List.not_mem_nil
  | k + 1, c, h => by
    have h : c ∈ b (s + k) :: l_rw b s k := h
    rcases List.mem_cons.1 h with q | q
    · exact ⟨s + k, by omega, by omega, q.symm⟩
    · obtain ⟨v, h1, h2, h3⟩ := l_rw_mem k c q
      exact ⟨v, h1, by omega, h3⟩
/-- how many letters a word has -/
def l_wl (b : Int → Int) (n s : Int) : Nat := (l_sk b l_l n s - s).toNat
theorem l_rw_l {b : Int → Int} {n s : Int} (h : s ≤ n) : ∀ c ∈ l_rw b s (l_wl b n s), 97 ≤ c ∧ c ≤ 122 := by
  intro c hc
  obtain ⟨v, h1, h2, h3⟩ := l_rw_mem _ c hc
  have h4 := l_sk_b (b := b) (P := l_l) (n := n) s h
  unfold l_wl at h2
  have h5 := (l_sk_in (b := b) (P := l_l) (n := n) (p := s) h1 (by omega)).1
  rw [h3] at h5
  exact of_decide_eq_true h5
/-- the word at s is this one -/
abbrev l_is (b : Int → Int) (n s : Int) (W : List Int) : Prop := l_kd b n s = 1 ∧ l_rw b s (l_wl b n s) = W
