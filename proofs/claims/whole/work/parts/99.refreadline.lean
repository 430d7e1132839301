/-! TEXTS: the reference reads a whole line -/
/-- a line as it is kept -/
def y_kp (L : Int) (ln : y_L) (M M' : jm_Mem) : Prop := M' 73 (5 * L) = ln.1 ∧ (ln.1 ≠ 4 → M' 73 (5 * L + 1) = ln.2.1 ∧ M' 73 (5 * L + 2) = ln.2.2.1) ∧ M' 73 (5 * L + 3) = ln.2.2.2.1 ∧ M' 73 (5 * L + 4) = ln.2.2.2.2 ∧ ∀ i, i < 5 * L → M' 73 i = M 73 i
theorem y_wk_b {b : Int → Int} {n s : Int} : -1 ≤ y_wk b n s ∧ y_wk b n s ≤ 4 ∧ (0 ≤ y_wk b n s → l_kd b n s = 1) := by
  unfold y_wk
  by_cases h1 : l_is b n s [108, 108, 97]
  · rw [if_pos h1]; exact ⟨by omega, by omega, fun _ => h1.1⟩
  · rw [if_neg h1]
    by_cases h2 : l_is b n s [116, 104, 103, 105, 114]
    · rw [if_pos h2]; exact ⟨by omega, by omega, fun _ => h2.1⟩
    · rw [if_neg h2]
      by_cases h3 : l_is b n s [110, 119, 111, 100]
      · rw [if_pos h3]; exact ⟨by omega, by omega, fun _ => h3.1⟩
      · rw [if_neg h3]
        by_cases h4 : l_is b n s [104, 115, 97, 108, 115]
        · rw [if_pos h4]; exact ⟨by omega, by omega, fun _ => h4.1⟩
        · rw [if_neg h4]
          by_cases h5 : l_is b n s [107, 99, 97, 98]
          · rw [if_pos h5]; exact ⟨by omega, by omega, fun _ => h5.1⟩
          · rw [if_neg h5]; exact ⟨by omega, by omega, fun q => by omega⟩
