/-! TEXTS: the reference's numbers -/
theorem p_141 {M : jm_Mem} {s k : Int} {Q : jm_Q} (h15 : M 67 15 = 0) (hs : M 67 10 = s) (s0 : 0 ≤ s) (s1 : s ≤ 600) (k0 : 0 ≤ k) (k1 : k ≤ 2) (hQ : ∀ M', jm_fx [] [10, 11, 12, 13, 14, 15, 20] M M' → M' 67 15 = 8 * s + k → Q (some (jm_I 0)) M') : jm_cl 141 [jm_R 67, jm_I k] M Q := by
  refine sc_141 ⟨fun _ => ?_, fun z => absurd h15 z⟩
  rw [hs]
  exact ⟨⟨by omega, by omega⟩, ⟨by omega, by omega⟩, by omega, by omega, hQ _ (jm_fx_sx (by decide)) (by rw [jm_s67, if_pos rfl])⟩
theorem p_142 {M : jm_Mem} {b : Int → Int} {n p lo hi : Int} {Q : jm_Q} (hb : l_rb b n M) (hby : l_by b) (hn : M 67 9 = n) (n1 : n ≤ 600) (p0 : 0 ≤ p) (p1 : p ≤ n) (hx : l_gx b n (l_st b n p) M) (h15 : M 67 15 = 0) (hok : ∀ v q M', y_wh b n p lo hi = .ok (v, q) → jm_fx [] [10, 11, 12, 13, 14, 15, 20] M M' → M' 67 15 = 0 → M' 67 20 = v → l_gx b n (l_st b n q) M' → Q (some (jm_I 1)) M') (her : ∀ F M', y_wh b n p lo hi = .error F → jm_fx [] [10, 11, 12, 13, 14, 15, 20] M M' → M' 67 15 = F → M' 67 20 = M 67 20 → Q (some (jm_I 0)) M') : jm_cl 142 [jm_R 67, jm_I lo, jm_I hi] M Q := by
  have hs : p ≤ l_st b n p ∧ l_st b n p ≤ n := l_sk_b (b := b) (P := l_w) (n := n) p p1
  have hen : l_st b n p ≤ l_en b n (l_st b n p) ∧ l_en b n (l_st b n p) ≤ n := l_en_b hs.2
  obtain ⟨x12, x10, x110, x111, x11, x13, -⟩ := hx
  unfold y_wh at hok her
  have bad : ∀ k, 1 ≤ k → k ≤ 2 → (∀ M', jm_fx [] [10, 11, 12, 13, 14, 15, 20] M M' → M' 67 15 = 8 * l_st b n p + k → M' 67 20 = M 67 20 → Q (some (jm_I 0)) M') → jm_cl 141 [jm_R 67, jm_I k] M (fun r M2 => ∃ r2 : Int, r = some (jm_I r2) ∧ (0 : Int) ≤ r2 ∧ r2 ≤ 1 ∧ Q (some (jm_I r2)) M2) := by
    intro k k1 k2 hq
    refine sc_141 ⟨fun _ => ?_, fun z => absurd h15 z⟩
    rw [x10]
    refine ⟨⟨by omega, by omega⟩, ⟨by omega, by omega⟩, by omega, by omega, _, rfl, by omega, by omega, hq _ (jm_fx_sx (by decide)) (by rw [jm_s67, if_pos rfl]) (by rw [jm_s67, if_neg (by omega)])⟩
  refine sc_142 ⟨fun k => ?_, fun k => ?_⟩
  · rw [x12] at k
    rw [if_pos k] at hok her
    rw [e_119, x13 k]
    refine ⟨_, rfl, fun z => ?_, fun z => ?_⟩
    · rw [if_neg (jm_B0.1 z)] at her
      exact bad 2 (by omega) (by omega) (fun M' h1 h2 h3 => her _ M' rfl h1 h2 h3)
    · rw [if_pos (jm_Bn.1 z)] at hok
      have m11 : jm_st M 67 20 (l_va b n (l_st b n p)) 67 11 = l_en b n (l_st b n p) := by rw [jm_s67, if_neg (by omega)]; exact x11 (by omega)
      refine p_139 (M := jm_st M 67 20 (l_va b n (l_st b n p))) hb hby (by rw [jm_s67, if_neg (by omega)]; exact hn) n1 m11 (by omega) hen.2 ?_
      intro M2 f2 h2
      refine ⟨rfl, by omega, by omega, hok _ _ M2 rfl (jm_fx_tr (jm_fx_sx (by decide)) (jm_fx_mo f2 (fun _ h => absurd h List.not_mem_nil) (by decide))) ?_ ?_ h2⟩
      · rw [f2.2 15 (by decide), jm_s67, if_neg (by omega)]; exact h15
      · rw [f2.2 20 (by decide), jm_s67, if_pos rfl]
  · rw [x12] at k
    rw [if_neg k] at her
    exact bad 1 (by omega) (by omega) (fun M' h1 h2 h3 => her _ M' rfl h1 h2 h3)
