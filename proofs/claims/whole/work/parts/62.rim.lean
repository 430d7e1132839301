/-! THE RIM -/
def g_cn (w h n : Int) : Int := if n / w = 0 ∧ n % w < w - 1 then n + 1 else if n % w = w - 1 ∧ n / w < h - 1 then n + w else if n / w = h - 1 ∧ 0 < n % w then n - 1 else n - w
def g_cg (w h n : Int) : Int := if n / w = 0 ∧ n % w < w - 1 then 3 * n else if n % w = w - 1 ∧ n / w < h - 1 then 3 * n + 1 else if n / w = h - 1 ∧ 0 < n % w then 3 * (n - 1) else 3 * (n - w) + 1
abbrev g_os (w h n : Int) : Prop := n % w = 0 ∨ n % w = w - 1 ∨ n / w = 0 ∨ n / w = h - 1
/-- the number of the outside's nodes, and the next one -/
abbrev g_rR (w h : Int) : Int := 2 * w + 2 * h - 4
def g_nx (w h k : Int) : Int := if k + 1 < g_rR w h then k + 1 else 0
def g_ck1 (w h k : Int) : Bool := decide (g_nd w h (g_rn w h k)) && (decide (g_os w h (g_rn w h k)) && (decide (g_cn w h (g_rn w h k) = g_rn w h (g_nx w h k)) && (decide (g_cg w h (g_rn w h k) = g_rg w h k) && (decide (0 ≤ g_rg w h k ∧ g_rg w h k < 108) && (decide (g_E w h (fun _ => 0) (g_rg w h k)) && decide (g_lf w h (fun _ => 0) (g_rg w h k) = 72 ∨ g_rt w h (fun _ => 0) (g_rg w h k) = 72))))))
def g_ck2 (w h : Int) : Bool := (List.range 20).all (fun k => decide ((k : Int) < g_rR w h → g_ck1 w h (k : Int) = true)) && ((List.range 20).all (fun k => (List.range 20).all (fun j => decide ((k : Int) < g_rR w h → (j : Int) < g_rR w h → (g_rn w h (k : Int) = g_rn w h (j : Int) ∨ g_rg w h (k : Int) = g_rg w h (j : Int)) → k = j))) && (List.range 36).all (fun n => decide (g_nd w h (n : Int) → g_os w h (n : Int) → (List.range 20).any (fun k => decide ((k : Int) < g_rR w h ∧ g_rn w h (k : Int) = (n : Int))) = true)))
theorem g_ck2_ok {w h : Int} (hg : g_sd w h) : g_ck2 w h = true := by
  obtain ⟨hcw, hch⟩ := g_cases hg
  rcases hcw with rfl | rfl | rfl | rfl | rfl <;> rcases hch with rfl | rfl | rfl | rfl | rfl <;> decide +kernel
section M1
variable {w h : Int}
theorem g_rim1 (hg : g_sd w h) {k : Int} (h0 : 0 ≤ k) (h1 : k < g_rR w h) : g_nd w h (g_rn w h k) ∧ g_os w h (g_rn w h k) ∧ g_cn w h (g_rn w h k) = g_rn w h (g_nx w h k) ∧ g_cg w h (g_rn w h k) = g_rg w h k ∧ (0 ≤ g_rg w h k ∧ g_rg w h k < 108) ∧ g_E w h (fun _ => 0) (g_rg w h k) ∧ (g_lf w h (fun _ => 0) (g_rg w h k) = 72 ∨ g_rt w h (fun _ => 0) (g_rg w h k) = 72) := by
  have hc := g_ck2_ok hg
  unfold g_ck2 at hc
  rw [Bool.and_eq_true, Bool.and_eq_true, List.all_eq_true] at hc
  have hb := hg
  have := of_decide_eq_true (hc.1 k.toNat (by rw [List.mem_range]; unfold g_rR g_sd at *; omega))
  rw [show ((k.toNat : Nat) : Int) = k by omega] at this
  have := this h1
  unfold g_ck1 at this
  simp only [Bool.and_eq_true, decide_eq_true_eq] at this
  exact this
theorem g_rim2 (hg : g_sd w h) {k j : Int} (h0 : 0 ≤ k) (h1 : k < g_rR w h) (j0 : 0 ≤ j) (j1 : j < g_rR w h) (he : g_rn w h k = g_rn w h j ∨ g_rg w h k = g_rg w h j) : k = j := by
  have hc := g_ck2_ok hg
  unfold g_ck2 at hc
  rw [Bool.and_eq_true, Bool.and_eq_true, List.all_eq_true, List.all_eq_true] at hc
  have h2 := hc.2.1 k.toNat (by rw [List.mem_range]; unfold g_rR g_sd at *; omega)
  rw [List.all_eq_true] at h2
  have := of_decide_eq_true (h2 j.toNat (by rw [List.mem_range]; unfold g_rR g_sd at *; omega))
  rw [show ((k.toNat : Nat) : Int) = k by omega, show ((j.toNat : Nat) : Int) = j by omega] at this
  have := this h1 j1 he
  omega
theorem g_rim3 (hg : g_sd w h) {n : Int} (hn : g_nd w h n) (ho : g_os w h n) : ∃ k, 0 ≤ k ∧ k < g_rR w h ∧ g_rn w h k = n := by
  have hc := g_ck2_ok hg
  unfold g_ck2 at hc
  rw [Bool.and_eq_true, Bool.and_eq_true] at hc
  have h2 := hc.2.2
  rw [List.all_eq_true] at h2
  have hnb := g_nb hg hn
  have := of_decide_eq_true (h2 n.toNat (by rw [List.mem_range]; omega))
  rw [show ((n.toNat : Nat) : Int) = n by omega] at this
  have := this hn ho
  rw [List.any_eq_true] at this
  obtain ⟨k, -, hk⟩ := this
  have hk := of_decide_eq_true hk
  exact ⟨(k : Int), by omega, hk.1, hk.2⟩
/-- edges of the rim, whatever lies aslant -/
theorem g_rim_E (hg : g_sd w h) {sl : Int → Int} {k : Int} (h0 : 0 ≤ k) (h1 : k < g_rR w h) : g_E w h sl (g_rg w h k) ∧ (g_lf w h sl (g_rg w h k) = 72 ∨ g_rt w h sl (g_rg w h k) = 72) := by
  obtain ⟨-, -, -, -, -, hE, hf⟩ := g_rim1 hg h0 h1
  obtain ⟨n, hs⟩ := g_split hE
  have out : ∀ x y sd, g_fa w h (fun _ => 0) x y sd = 72 → g_fa w h sl x y sd = 72 := by
    intro x y sd hx
    by_cases hc : 0 ≤ x ∧ 0 ≤ y ∧ x < w - 1 ∧ y < h - 1
    · have := g_fa_in (sl := fun _ => 0) (sd := sd) hg hc.1 hc.2.1 hc.2.2.1 hc.2.2.2
      omega
    · exact g_fa_out hc
  rcases hs with ⟨e, h2, h3⟩ | ⟨e, h2, h3⟩ | ⟨e, h2, h3⟩
  · rw [e] at hf ⊢
    rw [g_lf0, g_rt0] at hf ⊢
    exact ⟨g_E0.2 ⟨h2, h3⟩, hf.elim (fun q => Or.inl (out _ _ _ q)) (fun q => Or.inr (out _ _ _ q))⟩
  · rw [e] at hf ⊢
    rw [g_lf1, g_rt1] at hf ⊢
    exact ⟨g_E1.2 ⟨h2, h3⟩, hf.elim (fun q => Or.inl (out _ _ _ q)) (fun q => Or.inr (out _ _ _ q))⟩
  · exact absurd h3 (by decide)
end M1
/-- marks of so many edges from one on -/
def g_mk (w h : Int) : Nat → Int → (Int → Int) → (Int → Int)
  | 0, _, f => f
  | m + 1, a, f => g_mk w h m (g_nx w h a) (jm_up f (g_rg w h a) 1)
/-- so many steps from one node of the rim to another one -/
def g_st (w h : Int) : Nat → Int → Int
  | 0, a => a
  | m + 1, a => g_st w h m (g_nx w h a)
section M2
variable {w h : Int}
theorem g_nx_b (hg : g_sd w h) {a : Int} (h0 : 0 ≤ a) (h1 : a < g_rR w h) : 0 ≤ g_nx w h a ∧ g_nx w h a < g_rR w h := by
  unfold g_nx g_rR g_sd at *
  split <;> omega
theorem g_st_e (hg : g_sd w h) : ∀ (m : Nat) {a : Int}, 0 ≤ a → a < g_rR w h → (m : Int) ≤ g_rR w h → g_st w h m a = if a + (m : Int) < g_rR w h then a + (m : Int) else a + (m : Int) - g_rR w h
  | 0, a, h0, h1, hm => by
    show a = _
    rw [if_pos (by omega)]
    omega
  | m + 1, a, h0, h1, hm => by
    have hb := g_nx_b hg h0 h1
    show g_st w h m (g_nx w h a) = _
    rw [g_st_e hg m hb.1 hb.2 (by omega)]
    unfold g_nx
    unfold g_sd at hg
    by_cases q : a + 1 < g_rR w h
    · rw [if_pos q]
      by_cases q2 : a + 1 + (m : Int) < g_rR w h
      · rw [if_pos q2, if_pos (by omega)]
        omega
      · rw [if_neg q2, if_neg (by omega)]
        omega
    · rw [if_neg q, if_pos (by omega), if_neg (by omega)]
      omega
/-- from one to another one there are less steps than nodes -/
theorem g_st_to (hg : g_sd w h) {a b : Int} (a0 : 0 ≤ a) (a1 : a < g_rR w h) (b0 : 0 ≤ b) (b1 : b < g_rR w h) (hne : a ≠ b) : ∃ m : Nat, 1 ≤ m ∧ (m : Int) < g_rR w h ∧ g_st w h m a = b ∧ ∀ j : Nat, j < m → g_st w h j a ≠ b := by
  by_cases hab : a < b
  · refine ⟨(b - a).toNat, by omega, by omega, ?_, ?_⟩
    · rw [g_st_e hg _ a0 a1 (by omega), if_pos (by omega)]
      omega
    · intro j hj
      rw [g_st_e hg _ a0 a1 (by omega), if_pos (by omega)]
      omega
  · refine ⟨(b - a + g_rR w h).toNat, by omega, by omega, ?_, ?_⟩
    · rw [g_st_e hg _ a0 a1 (by omega), if_neg (by omega)]
      omega
    · intro j hj
      rw [g_st_e hg _ a0 a1 (by omega)]
      split <;> omega
theorem g_mk_e (hg : g_sd w h) {x : Int} : ∀ (m : Nat) {a : Int} {f : Int → Int}, g_mk w h m a f x = if (∃ j : Nat, j < m ∧ g_rg w h (g_st w h j a) = x) then 1 else f x := by
  intro m
  induction m with
  | zero =>
    intro a f
    rw [if_neg (by rintro ⟨j, hj, -⟩; omega)]
    rfl
  | succ m ih =>
    intro a f
    show g_mk w h m (g_nx w h a) (jm_up f (g_rg w h a) 1) x = _
    rw [ih]
    by_cases q : ∃ j : Nat, j < m ∧ g_rg w h (g_st w h j (g_nx w h a)) = x
    · rw [if_pos q, if_pos]
      obtain ⟨j, h1, h2⟩ := q
      exact ⟨j + 1, by omega, h2⟩
    · rw [if_neg q]
      by_cases q2 : x = g_rg w h a
      · rw [q2, jm_up_s, if_pos ⟨0, by omega, rfl⟩]
      · rw [jm_up_o q2, if_neg]
        rintro ⟨j, h1, h2⟩
        cases j with
        | zero => exact q2 h2.symm
        | succ j => exact q ⟨j, by omega, h2⟩
end M2
