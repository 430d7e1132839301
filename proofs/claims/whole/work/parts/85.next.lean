/-! TEXTS: the class's next token -/
theorem p_71_47 {M : jm_Mem} {b : Int → Int} {n s : Int} {Q : jm_Q} (hb : M 66 = b) (hn : M 65 2 = n) (n1 : n ≤ 600) (s0 : 0 ≤ s) (hQ : ∀ M', jm_fe [3] M M' → M' 65 3 = l_sk b l_l n s → Q none M') : ∀ v, v ≤ n → s ≤ v → ∀ M1, jm_fe [3] M M1 → M1 65 3 = v → l_sk b l_l n s = l_sk b l_l n v → jm_run 71 (47, [some (jm_R 65)], [], M1) Q := by
  refine jm_dn ?_
  intro v hv ih sv M1 hf h3 hsk
  have m66 : M1 66 = b := by rw [hf.1 66 (by decide)]; exact hb
  have m2 : M1 65 2 = n := by rw [hf.2 2 (by decide)]; exact hn
  refine sg_71_47 ?_
  rw [h3, m2]
  refine ⟨fun z1 => ?_, fun q => hQ M1 hf ?_⟩
  · rw [e_73 m66 n1 (by omega) z1]
    refine ⟨_, rfl, fun z => hQ M1 hf ?_, fun z => ?_⟩
    · rw [jm_B0] at z
      rw [h3, hsk]
      exact (l_sk_n (by rw [← Bool.not_eq_true]; exact z)).symm
    · have z2 := jm_Bn.1 z
      rw [h3]
      refine ⟨⟨by omega, by omega⟩, ih z1 (by omega) _ (jm_fe_tr hf (jm_fe_st (by decide))) ?_ ?_⟩
      · rw [jm_s65, if_pos rfl]
      · rw [hsk, l_sk_y z1 z2]
  · rw [h3, hsk]
    exact (l_sk_z (by omega)).symm
/-- what next leaves -/
def l_nx (b : Int → Int) (n s : Int) (M' : jm_Mem) : Prop := M' 65 4 = l_kd b n s ∧ M' 65 5 = s ∧ 0 ≤ M' 65 3 ∧ M' 65 3 ≤ n ∧ (l_kd b n s ≠ 4 → M' 65 3 = l_en b n s) ∧ (l_kd b n s = 2 → M' 65 6 = l_va b n s)
theorem p_71_26 {M : jm_Mem} {b : Int → Int} {n s : Int} {Q : jm_Q} (hb : M 66 = b) (hby : l_by b) (hn : M 65 2 = n) (n1 : n ≤ 600) (hs : M 65 3 = s) (s0 : 0 ≤ s) (s1 : s ≤ n) (hQ : ∀ M', jm_fe [3, 4, 5, 6] M M' → l_nx b n s M' → Q none M') : jm_run 71 (26, [some (jm_R 65)], [], M) Q := by
  have a3 : jm_st M 65 5 s 65 3 = s := by rw [jm_s65, if_neg (by omega)]; exact hs
  have a2 : jm_st M 65 5 s 65 2 = n := by rw [jm_s65, if_neg (by omega)]; exact hn
  have a66 : jm_st M 65 5 s 66 = b := hb
  have f0 : jm_fe [3, 4, 5, 6] M (jm_st M 65 5 s) := jm_fe_st (by decide)
  refine sg_71_26 ?_
  rw [hs, a3, a2]
  refine ⟨fun z => ?_, fun z => ?_⟩
  · rw [e_73 a66 n1 s0 z]
    refine ⟨_, rfl, fun y => ?_, fun y => ?_⟩
    · have hl : l_l (b s) = false := by
        rw [← Bool.not_eq_true]
        exact jm_B0.1 y
      rw [a3, a66]
      refine ⟨s0, by omega, fun u => ?_, fun u => ?_⟩
      · obtain ⟨k1, k2⟩ := l_kd_3 (n := n) z u
        have c3 : jm_st (jm_st M 65 5 s) 65 4 3 65 3 = s := by rw [jm_s65, if_neg (by omega)]; exact a3
        rw [c3]
        refine ⟨⟨by omega, by omega⟩, hQ _ (jm_fe_tr f0 (jm_fe_tr (jm_fe_st (by decide)) (jm_fe_st (by decide)))) ⟨?_, ?_, ?_, ?_, fun _ => ?_, fun w => by omega⟩⟩
        · rw [jm_s65, if_neg (by omega), jm_s65, if_pos rfl, k1]
        · rw [jm_s65, if_neg (by omega), jm_s65, if_neg (by omega), jm_s65, if_pos rfl]
        · rw [jm_s65, if_pos rfl]; omega
        · rw [jm_s65, if_pos rfl]; omega
        · rw [jm_s65, if_pos rfl, k2]
      · obtain ⟨k1, k2⟩ := l_kd_2 (n := n) z hl u
        refine p_72 a66 hby a2 n1 a3 s0 z ?_
        intro M2 hf2 g0 g1 hg
        have f2 : jm_fe [3, 4, 5, 6] M M2 := jm_fe_tr f0 (jm_fe_mo hf2 (by decide))
        have m5 : M2 65 5 = s := by rw [hf2.2 5 (by decide), jm_s65, if_pos rfl]
        refine ⟨_, rfl, fun w => sg_71_88 ?_, fun w => sg_71_88 ?_⟩
        · have w := jm_B0.1 w
          rw [if_neg w] at k1
          refine hQ _ (jm_fe_tr f2 (jm_fe_st (by decide))) ⟨?_, ?_, ?_, ?_, fun t => absurd k1 t, fun t => by omega⟩
          · rw [jm_s65, if_pos rfl, k1]
          · rw [jm_s65, if_neg (by omega)]; exact m5
          · rw [jm_s65, if_neg (by omega)]; exact g0
          · rw [jm_s65, if_neg (by omega)]; exact g1
        · have w := jm_Bn.1 w
          rw [if_pos w] at k1
          obtain ⟨g3, g6⟩ := hg w
          refine hQ _ (jm_fe_tr f2 (jm_fe_st (by decide))) ⟨?_, ?_, ?_, ?_, fun _ => ?_, fun _ => ?_⟩
          · rw [jm_s65, if_pos rfl, k1]
          · rw [jm_s65, if_neg (by omega)]; exact m5
          · rw [jm_s65, if_neg (by omega)]; exact g0
          · rw [jm_s65, if_neg (by omega)]; exact g1
          · rw [jm_s65, if_neg (by omega), k2]; exact g3
          · rw [jm_s65, if_neg (by omega)]; exact g6
    · have hl := jm_Bn.1 y
      obtain ⟨k1, k2⟩ := l_kd_1 (n := n) z hl
      have hE := l_sk_b (b := b) (P := l_l) (n := n) s s1
      refine p_71_47 (M := jm_st (jm_st M 65 5 s) 65 4 1) (b := b) (n := n) (s := s) hb (by rw [jm_s65, if_neg (by omega)]; exact a2) n1 s0 ?_ s s1 (by omega) _ (jm_fe_rfl _ _) (by rw [jm_s65, if_neg (by omega)]; exact a3) rfl
      intro M2 hf2 h3
      refine hQ M2 (jm_fe_tr f0 (jm_fe_tr (jm_fe_st (by decide)) (jm_fe_mo hf2 (by decide)))) ⟨?_, ?_, by omega, by omega, fun _ => ?_, fun w => by omega⟩
      · rw [hf2.2 4 (by decide), jm_s65, if_pos rfl, k1]
      · rw [hf2.2 5 (by decide), jm_s65, if_neg (by omega), jm_s65, if_pos rfl]
      · rw [h3, k2]
  · obtain ⟨k1, k2⟩ := l_kd_0 (b := b) (n := n) (s := s) (by omega)
    refine hQ _ (jm_fe_tr f0 (jm_fe_st (by decide))) ⟨?_, ?_, ?_, ?_, fun _ => ?_, fun w => by omega⟩
    · rw [jm_s65, if_pos rfl, k1]
    · rw [jm_s65, if_neg (by omega), jm_s65, if_pos rfl]
    · rw [jm_s65, if_neg (by omega), a3]; exact s0
    · rw [jm_s65, if_neg (by omega), a3]; exact s1
    · rw [jm_s65, if_neg (by omega), a3, k2]
/-- where the next token begins -/
abbrev l_st (b : Int → Int) (n p : Int) : Int := l_sk b l_w n p
theorem p_71 {M : jm_Mem} {b : Int → Int} {n p : Int} {Q : jm_Q} (hb : M 66 = b) (hby : l_by b) (hn : M 65 2 = n) (n1 : n ≤ 600) (hp : M 65 3 = p) (p0 : 0 ≤ p) (p1 : p ≤ n) (hQ : ∀ M', jm_fe [3, 4, 5, 6] M M' → l_nx b n (l_st b n p) M' → Q none M') : jm_cl 71 [jm_R 65] M Q := by
  have S : ∀ v, v ≤ n → p ≤ v → ∀ M1, jm_fe [3, 4, 5, 6] M M1 → M1 65 3 = v → l_st b n p = l_st b n v → (M1 65 3 < M1 65 2 → (0 : Int) ≤ M1 65 3 ∧ M1 65 3 < 600 ∧ (M1 66 (M1 65 3) = 32 → jm_run 71 (19, [some (jm_R 65)], [], M1) Q) ∧ (¬ M1 66 (M1 65 3) = 32 → (0 : Int) ≤ M1 65 3 ∧ M1 65 3 < 600 ∧ (M1 66 (M1 65 3) = 10 → jm_run 71 (19, [some (jm_R 65)], [], M1) Q) ∧ (¬ M1 66 (M1 65 3) = 10 → jm_run 71 (26, [some (jm_R 65)], [], M1) Q))) ∧ (¬ M1 65 3 < M1 65 2 → jm_run 71 (26, [some (jm_R 65)], [], M1) Q) := by
    refine jm_dn ?_
    intro v hv ih pv M1 hf h3 hsk
    have m66 : M1 66 = b := by rw [hf.1 66 (by decide)]; exact hb
    have m2 : M1 65 2 = n := by rw [hf.2 2 (by decide)]; exact hn
    have go : v < n → l_w (b v) = true → jm_run 71 (19, [some (jm_R 65)], [], M1) Q := by
      intro q hw
      refine sg_71_19 ?_
      rw [h3]
      refine ⟨⟨by omega, by omega⟩, sg_71_0 (ih q (by omega) _ (jm_fe_tr hf (jm_fe_st (by decide))) (by rw [jm_s65, if_pos rfl]) ?_)⟩
      rw [hsk]
      exact l_sk_y q hw
    have fin : l_st b n p = v → jm_run 71 (26, [some (jm_R 65)], [], M1) Q := by
      intro he
      refine p_71_26 m66 hby m2 n1 h3 (by omega) hv ?_
      intro M2 hf2 hx
      exact hQ M2 (jm_fe_tr hf hf2) (by rw [he]; exact hx)
    rw [h3, m2, m66]
    refine ⟨fun q => ⟨by omega, by omega, fun z => go q ?_, fun z => ⟨by omega, by omega, fun y => go q ?_, fun y => fin ?_⟩⟩, fun q => fin ?_⟩
    · rw [z]; rfl
    · rw [y]; rfl
    · rw [hsk]
      exact l_sk_n (decide_eq_false (by omega))
    · rw [hsk]
      exact l_sk_z (by omega)
  exact sc_71 (S p p1 (by omega) M (jm_fe_rfl _ _) hp rfl)
