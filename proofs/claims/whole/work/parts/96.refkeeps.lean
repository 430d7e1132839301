/-! TEXTS: the reference keeps a number -/
theorem p_144 {M : jm_Mem} {b : Int → Int} {n p lo hi fd L : Int} {Q : jm_Q} (hb : l_rb b n M) (hby : l_by b) (hn : M 67 9 = n) (n1 : n ≤ 600) (p0 : 0 ≤ p) (p1 : p ≤ n) (hx : l_gx b n (l_st b n p) M) (h15 : M 67 15 = 0) (hL : M 67 17 = L) (L0 : 0 ≤ L) (L1 : L ≤ 150) (fd0 : 0 ≤ fd) (fd1 : fd ≤ 4) (hok : ∀ v q M', y_wh b n p lo hi = .ok (v, q) → jm_fx [73] [10, 11, 12, 13, 14, 15, 20] M M' → M' 67 15 = 0 → M' 67 20 = v → M' 73 = jm_up (M 73) (5 * L + fd) v → l_gx b n (l_st b n q) M' → Q (some (jm_I 1)) M') (her : ∀ F M', y_wh b n p lo hi = .error F → jm_fx [73] [10, 11, 12, 13, 14, 15, 20] M M' → M' 67 15 = F → M' 67 20 = M 67 20 → M' 73 = jm_up (M 73) (5 * L + fd) (M 67 20) → Q (some (jm_I 0)) M') : jm_cl 144 [jm_R 67, jm_I fd, jm_I lo, jm_I hi] M Q := by
  refine sc_144 (p_142 hb hby hn n1 p0 p1 hx h15 ?_ ?_)
  · intro v q M1 h1 f1 m15 m20 g1
    have m17 : M1 67 17 = L := by rw [f1.2 17 (by decide)]; exact hL
    rw [m17]
    refine ⟨_, rfl, ⟨by omega, by omega⟩, ⟨by omega, by omega⟩, by omega, by omega, by omega, by omega, hok v q _ h1 (jm_fx_tr (jm_fx_mo f1 (fun _ h => absurd h List.not_mem_nil) (fun _ h => h)) (jm_fx_st (by decide) (by decide))) m15 m20 ?_ g1⟩
    simp only [jm_st_e, reduceIte]
    rw [f1.1 73 (by decide) (by decide), m20]
  · intro F M1 h1 f1 m15 m20
    have m17 : M1 67 17 = L := by rw [f1.2 17 (by decide)]; exact hL
    rw [m17]
    refine ⟨_, rfl, ⟨by omega, by omega⟩, ⟨by omega, by omega⟩, by omega, by omega, by omega, by omega, her F _ h1 (jm_fx_tr (jm_fx_mo f1 (fun _ h => absurd h List.not_mem_nil) (fun _ h => h)) (jm_fx_st (by decide) (by decide))) m15 m20 ?_⟩
    simp only [jm_st_e, reduceIte]
    rw [f1.1 73 (by decide) (by decide), m20]
