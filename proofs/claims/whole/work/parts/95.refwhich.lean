/-! TEXTS: which line, the reference -/
def y_gh (k : Int) (M M' : jm_Mem) : Prop := M 999 0 ≤ M' 999 0 ∧ M' 999 0 ≤ M 999 0 + k ∧ M 999 1 ≤ M' 999 1 ∧ M' 999 1 ≤ M 999 1 + 5 * k
theorem y_gh_rfl (M : jm_Mem) : y_gh 0 M M := ⟨by omega, by omega, by omega, by omega⟩
theorem y_gh_tr {k j : Int} {M M1 M2 : jm_Mem} (h1 : y_gh k M M1) (h2 : y_gh j M1 M2) : y_gh (k + j) M M2 := by
  unfold y_gh at h1 h2 ⊢
  omega
theorem y_gh_mo {k j : Int} {M M1 : jm_Mem} (h1 : y_gh k M M1) (h : k ≤ j) : y_gh j M M1 := by
  unfold y_gh at h1 ⊢
  omega
theorem y_gh_1 (M : jm_Mem) : y_gh 1 M (jm_gh M 1 5) := by
  have e0 : jm_gh M 1 5 999 0 = M 999 0 + 1 := rfl
  have e1 : jm_gh M 1 5 999 1 = M 999 1 + 5 := rfl
  unfold y_gh
  rw [e0, e1]
  omega
theorem y_gh_fx (M : jm_Mem) (is : List Int) : jm_fx [999] is M (jm_gh M 1 5) := by
  refine ⟨fun c a _ => ?_, fun i _ => rfl⟩
  have a : c ≠ 999 := fun q => a (by rw [q]; exact List.mem_cons_self)
  show jm_st (jm_st M 999 0 (M 999 0 + 1)) 999 1 (M 999 1 + 5) c = M c
  rw [jm_st_e, if_neg a, jm_st_e, if_neg a]
theorem y_gh_gx {b : Int → Int} {n s : Int} {M : jm_Mem} (h : l_gx b n s M) : l_gx b n s (jm_gh M 1 5) := h
theorem p_143 {M : jm_Mem} {b : Int → Int} {n s : Int} {Q : jm_Q} (s1 : s ≤ n) (hx : l_gx b n s M) (hQ : ∀ M', jm_fx [999] [] M M' → y_gh 5 M M' → l_gx b n s M' → Q (some (jm_I (y_wk b n s))) M') : jm_cl 143 [jm_R 67] M Q := by
  unfold y_wk at hQ
  have f1 := y_gh_fx M []
  have g1 := y_gh_1 M
  have f2 := jm_fx_tr f1 (y_gh_fx (jm_gh M 1 5) [])
  have g2 := y_gh_tr g1 (y_gh_1 (jm_gh M 1 5))
  have f3 := jm_fx_tr f2 (y_gh_fx (jm_gh (jm_gh M 1 5) 1 5) [])
  have g3 := y_gh_tr g2 (y_gh_1 (jm_gh (jm_gh M 1 5) 1 5))
  have f4 := jm_fx_tr f3 (y_gh_fx (jm_gh (jm_gh (jm_gh M 1 5) 1 5) 1 5) [])
  have g4 := y_gh_tr g3 (y_gh_1 (jm_gh (jm_gh (jm_gh M 1 5) 1 5) 1 5))
  have f5 := jm_fx_tr f4 (y_gh_fx (jm_gh (jm_gh (jm_gh (jm_gh M 1 5) 1 5) 1 5) 1 5) [])
  have g5 := y_gh_tr g4 (y_gh_1 (jm_gh (jm_gh (jm_gh (jm_gh M 1 5) 1 5) 1 5) 1 5))
  have hx1 := y_gh_gx hx
  have hx2 := y_gh_gx hx1
  have hx3 := y_gh_gx hx2
  have hx4 := y_gh_gx hx3
  have hx5 := y_gh_gx hx4
  refine sc_143 ⟨⟨by omega, by omega⟩, ⟨by omega, by omega⟩, ⟨by omega, by omega⟩, ⟨by omega, by omega⟩, ⟨by omega, by omega⟩, ?_⟩
  rw [r_140 s1 hx1 (x := jm_spelt 97 108 108 0 0) (W := [108, 108, 97]) (by decide) (by decide) (by decide)]
  refine ⟨_, rfl, fun z1 => ⟨⟨by omega, by omega⟩, ⟨by omega, by omega⟩, ⟨by omega, by omega⟩, ⟨by omega, by omega⟩, ⟨by omega, by omega⟩, ?_⟩, fun z1 => ?_⟩
  · rw [if_neg (jm_B0.1 z1)] at hQ
    rw [r_140 s1 hx2 (x := jm_spelt 114 105 103 104 116) (W := [116, 104, 103, 105, 114]) (by decide) (by decide) (by decide)]
    refine ⟨_, rfl, fun z2 => ⟨⟨by omega, by omega⟩, ⟨by omega, by omega⟩, ⟨by omega, by omega⟩, ⟨by omega, by omega⟩, ⟨by omega, by omega⟩, ?_⟩, fun z2 => ?_⟩
    · rw [if_neg (jm_B0.1 z2)] at hQ
      rw [r_140 s1 hx3 (x := jm_spelt 100 111 119 110 0) (W := [110, 119, 111, 100]) (by decide) (by decide) (by decide)]
      refine ⟨_, rfl, fun z3 => ⟨⟨by omega, by omega⟩, ⟨by omega, by omega⟩, ⟨by omega, by omega⟩, ⟨by omega, by omega⟩, ⟨by omega, by omega⟩, ?_⟩, fun z3 => ?_⟩
      · rw [if_neg (jm_B0.1 z3)] at hQ
        rw [r_140 s1 hx4 (x := jm_spelt 115 108 97 115 104) (W := [104, 115, 97, 108, 115]) (by decide) (by decide) (by decide)]
        refine ⟨_, rfl, fun z4 => ⟨⟨by omega, by omega⟩, ⟨by omega, by omega⟩, ⟨by omega, by omega⟩, ⟨by omega, by omega⟩, ⟨by omega, by omega⟩, ?_⟩, fun z4 => ?_⟩
        · rw [if_neg (jm_B0.1 z4)] at hQ
          rw [r_140 s1 hx5 (x := jm_spelt 98 97 99 107 0) (W := [107, 99, 97, 98]) (by decide) (by decide) (by decide)]
          refine ⟨_, rfl, fun z5 => ?_, fun z5 => ?_⟩
          · rw [if_neg (jm_B0.1 z5)] at hQ
            exact hQ _ f5 (y_gh_mo g5 (by omega)) hx5
          · rw [if_pos (jm_Bn.1 z5)] at hQ
            exact hQ _ f5 (y_gh_mo g5 (by omega)) hx5
        · rw [if_pos (jm_Bn.1 z4)] at hQ
          exact hQ _ f4 (y_gh_mo g4 (by omega)) hx4
      · rw [if_pos (jm_Bn.1 z3)] at hQ
        exact hQ _ f3 (y_gh_mo g3 (by omega)) hx3
    · rw [if_pos (jm_Bn.1 z2)] at hQ
      exact hQ _ f2 (y_gh_mo g2 (by omega)) hx2
  · rw [if_pos (jm_Bn.1 z1)] at hQ
    exact hQ _ f1 (y_gh_mo g1 (by omega)) hx1
