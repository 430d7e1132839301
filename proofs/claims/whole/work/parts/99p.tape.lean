/-! the tape, and images -/
section Z9
variable {w h : Int} {sl fo ba su : Int → Int} {M : jm_Mem}
def z_by (v : Int) (s : Int) : Int := jm_byte (v / 2 ^ Int.toNat s)
def z_pu (b : Int → Int) (k v : Int) : Int → Int := jm_up (jm_up (jm_up (jm_up b k (z_by v 24)) (k + 1) (z_by v (24 + -8))) (k + 1 + 1) (z_by v (24 + -8 + -8))) (k + 1 + 1 + 1) (z_by v (24 + -8 + -8 + -8))
theorem z_by_b (v s : Int) : -128 ≤ z_by v s ∧ z_by v s ≤ 127 := (jn_byte (v / 2 ^ Int.toNat s)).2
theorem z_up_by {b : Int → Int} {k v : Int} (hb : l_by b) (hv : -128 ≤ v ∧ v ≤ 127) : l_by (jm_up b k v) := by
  intro i
  by_cases q : i = k
  · rw [q, jm_up_s]; exact hv
  · rw [jm_up_o q]; exact hb i
theorem z_pu_by {b : Int → Int} {k v : Int} (hb : l_by b) : l_by (z_pu b k v) := z_up_by (z_up_by (z_up_by (z_up_by hb (z_by_b _ _)) (z_by_b _ _)) (z_by_b _ _)) (z_by_b _ _)
theorem z_up_eq {b c : Int → Int} {k v : Int} (hb : ∀ i, 0 ≤ i → i < k → c i = b i) : ∀ i, 0 ≤ i → i < k + 1 → jm_up c k v i = jm_up b k v i := by
  intro i i0 i1
  by_cases q : i = k
  · rw [q, jm_up_s, jm_up_s]
  · rw [jm_up_o q, jm_up_o q]; exact hb i i0 (by omega)
theorem z_pu_eq {b c : Int → Int} {k v : Int} (hb : ∀ i, 0 ≤ i → i < k → c i = b i) : ∀ i, 0 ≤ i → i < k + 1 + 1 + 1 + 1 → z_pu c k v i = z_pu b k v i := z_up_eq (z_up_eq (z_up_eq (z_up_eq hb)))
theorem p_62 {k v : Int} {Q : jm_Q} (hk : M 65 1 = k) (k0 : 0 ≤ k) (k1 : k + 4 ≤ 600) (hQ : ∀ M', jm_fr [65, 66] M M' → M' 65 1 = k + 1 + 1 + 1 + 1 → M' 66 = z_pu (M 66) k v → Q none M') : jm_cl 62 [jm_R 65, jm_I v] M Q := by
  have st : ∀ (s j : Int) (M1 : jm_Mem), M1 65 1 = j → 0 ≤ j → j < 600 → 0 ≤ s → s ≤ 31 → (∀ M2, jm_fr [65, 66] M1 M2 → M2 65 1 = j + 1 → M2 66 = jm_up (M1 66) j (z_by v s) → jm_run 62 (2, [some (jm_R 65), some (jm_I v), some (jm_I (s + -8))], [], M2) Q) → jm_run 62 (2, [some (jm_R 65), some (jm_I v), some (jm_I s)], [], M1) Q := by
    intro s j M1 hj j0 j1 s0 s1 hn
    have bb := z_by_b v s
    have e65 : jm_st M1 66 (M1 65 1) (z_by v s) 65 1 = j := hj
    refine sg_62_2 ⟨fun z => by omega, fun _ => ⟨fun _ => ⟨s0, s1, by omega, by omega, bb.1, bb.2, ?_, ⟨by omega, by omega⟩, ?_⟩, fun z => by omega⟩⟩
    · show jm_in (jm_st M1 66 (M1 65 1) (z_by v s) 65 1 + 1)
      rw [e65]; exact ⟨by omega, by omega⟩
    · show jm_run 62 (2, [some (jm_R 65), some (jm_I v), some (jm_I (s + -8))], [], jm_st (jm_st M1 66 (M1 65 1) (z_by v s)) 65 1 (jm_st M1 66 (M1 65 1) (z_by v s) 65 1 + 1)) Q
      rw [e65, hj]
      exact hn _ (jm_fr_tr (jm_fr_st (by decide)) (jm_fr_st (by decide))) rfl rfl
  refine sc_62 (st 24 k M hk k0 (by omega) (by omega) (by omega) (fun M2 f2 a2 b2 => st _ _ M2 a2 (by omega) (by omega) (by decide) (by decide) (fun M3 f3 a3 b3 => st _ _ M3 a3 (by omega) (by omega) (by decide) (by decide) (fun M4 f4 a4 b4 => st _ _ M4 a4 (by omega) (by omega) (by decide) (by decide) (fun M5 f5 a5 b5 => sg_62_2 ⟨fun _ => hQ M5 (jm_fr_tr f2 (jm_fr_tr f3 (jm_fr_tr f4 f5))) a5 ?_, fun z => absurd (by decide) z⟩)))))
  rw [b5, b4, b3, b2]
  rfl
theorem p_134 {k v : Int} {Q : jm_Q} (hk : M 67 8 = k) (k0 : 0 ≤ k) (k1 : k + 4 ≤ 600) (hQ : ∀ M', jm_fx [72] [8] M M' → M' 67 8 = k + 1 + 1 + 1 + 1 → M' 72 = z_pu (M 72) k v → Q none M') : jm_cl 134 [jm_R 67, jm_I v] M Q := by
  have st : ∀ (s j : Int) (M1 : jm_Mem), M1 67 8 = j → 0 ≤ j → j < 600 → 0 ≤ s → s ≤ 31 → (∀ M2, jm_fx [72] [8] M1 M2 → M2 67 8 = j + 1 → M2 72 = jm_up (M1 72) j (z_by v s) → jm_run 134 (2, [some (jm_R 67), some (jm_I v), some (jm_I (s + -8))], [], M2) Q) → jm_run 134 (2, [some (jm_R 67), some (jm_I v), some (jm_I s)], [], M1) Q := by
    intro s j M1 hj j0 j1 s0 s1 hn
    have bb := z_by_b v s
    have e65 : jm_st M1 72 (M1 67 8) (z_by v s) 67 8 = j := hj
    refine sg_134_2 ⟨fun z => by omega, fun _ => ⟨s0, s1, by omega, by omega, bb.1, bb.2, ?_, ⟨by omega, by omega⟩, ?_⟩⟩
    · show jm_in (jm_st M1 72 (M1 67 8) (z_by v s) 67 8 + 1)
      rw [e65]; exact ⟨by omega, by omega⟩
    · show jm_run 134 (2, [some (jm_R 67), some (jm_I v), some (jm_I (s + -8))], [], jm_st (jm_st M1 72 (M1 67 8) (z_by v s)) 67 8 (jm_st M1 72 (M1 67 8) (z_by v s) 67 8 + 1)) Q
      rw [e65, hj]
      exact hn _ (jm_fx_tr (jm_fx_st (by decide) (by decide)) (jm_fx_sx (by decide))) rfl rfl
  refine sc_134 (st 24 k M hk k0 (by omega) (by omega) (by omega) (fun M2 f2 a2 b2 => st _ _ M2 a2 (by omega) (by omega) (by decide) (by decide) (fun M3 f3 a3 b3 => st _ _ M3 a3 (by omega) (by omega) (by decide) (by decide) (fun M4 f4 a4 b4 => st _ _ M4 a4 (by omega) (by omega) (by decide) (by decide) (fun M5 f5 a5 b5 => sg_134_2 ⟨fun _ => hQ M5 (jm_fx_tr f2 (jm_fx_tr f3 (jm_fx_tr f4 f5))) a5 ?_, fun z => absurd (by decide) z⟩)))))
  rw [b5, b4, b3, b2]
  rfl
theorem z_feed (hS : z_S w h sl fo ba su M) (a b c d e : Int) : z_stp 83 [jm_I a, jm_I b, jm_I c, jm_I d, jm_I e] 133 M := by
  obtain ⟨hz, hC, hR, hW, hI, hTa, hbt⟩ := id hS
  obtain ⟨t1, t2, t3, t4, t5⟩ := id hTa
  by_cases hk : 600 < M 65 1 + 20
  · refine z_mk hS (-1) ?_ ?_
    · intro Q hQ
      exact sc_83 ⟨⟨by omega, by omega⟩, fun _ => hQ M (z_q_rfl M), fun z => absurd hk z⟩
    · intro M1 Q S1 q1 hQ
      have e8 : jm_st M1 67 0 0 67 8 = M 65 1 := by
        show M1 67 8 = M 65 1
        rw [q1.1.2 8 (by decide)]; exact t3
      refine sc_133 ?_
      rw [e8]
      exact ⟨⟨by omega, by omega⟩, fun _ => hQ _ (z_q_0 M1 0), fun z => absurd hk z⟩
  · generalize hkk : M 65 1 = k at *
    refine sc_83 ?_
    rw [hkk]
    refine ⟨⟨by omega, by omega⟩, fun z => absurd z hk, fun _ => p_62 hkk t1 (by omega) (fun M1 f1 a1 b1 => ⟨rfl, p_62 a1 (by omega) (by omega) (fun M2 f2 a2 b2 => ⟨rfl, p_62 a2 (by omega) (by omega) (fun M3 f3 a3 b3 => ⟨rfl, p_62 a3 (by omega) (by omega) (fun M4 f4 a4 b4 => ⟨rfl, p_62 a4 (by omega) (by omega) (fun M5 f5 a5 b5 => ⟨rfl, _, rfl, sc_133 ?_⟩)⟩)⟩)⟩)⟩)⟩
    have f15 : jm_fr [65, 66] M M5 := jm_fr_tr f1 (jm_fr_tr f2 (jm_fr_tr f3 (jm_fr_tr f4 f5)))
    have e8 : jm_st M5 67 0 0 67 8 = k := by
      show M5 67 8 = k
      rw [f15 67 (by decide)]; exact t3
    rw [e8]
    refine ⟨⟨by omega, by omega⟩, fun z => absurd z hk, fun _ => p_134 e8 t1 (by omega) (fun N1 g1 c1 d1 => ⟨rfl, p_134 c1 (by omega) (by omega) (fun N2 g2 c2 d2 => ⟨rfl, p_134 c2 (by omega) (by omega) (fun N3 g3 c3 d3 => ⟨rfl, p_134 c3 (by omega) (by omega) (fun N4 g4 c4 d4 => ⟨rfl, p_134 c4 (by omega) (by omega) (fun N5 g5 c5 d5 => ⟨rfl, ?_, ?_, ?_⟩)⟩)⟩)⟩)⟩)⟩
    · rw [c5, a5]
    · have g15 : jm_fx [72] [0, 8] M5 N5 := jm_fx_tr (jm_fx_sx (by decide)) (jm_fx_tr (jm_fx_mo g1 (by decide) (by decide)) (jm_fx_tr (jm_fx_mo g2 (by decide) (by decide)) (jm_fx_tr (jm_fx_mo g3 (by decide) (by decide)) (jm_fx_tr (jm_fx_mo g4 (by decide) (by decide)) (jm_fx_mo g5 (by decide) (by decide))))))
      have on : ∀ {cs : List Nat} {is : List Int}, (∀ c ∈ cs, c ∉ [65, 66]) → (∀ c ∈ cs, c ∉ [72] ∧ c ≠ 67) → (∀ i ∈ is, i ∉ [(0 : Int), 8]) → z_sa cs is M N5 := fun a1 a2 a3 => z_sa_tr (z_sa_fr f15 a1 (by decide)) (z_sa_fx g15 a2 a3)
      refine ⟨w, h, sl, fo, ba, su, hz, z_C_on (on (by decide) (by decide) (by decide)) hC, z_R_on (on (by decide) (by decide) (by decide)) hR, z_W_on (on (by decide) (by decide) (by decide)) hW, z_I_on (on (by decide) (by decide) (by decide)) hI, ?_, z_tb_on (on (by decide) (by decide) (by decide)) hbt⟩
      have e65 : N5 65 1 = M5 65 1 := by rw [g15.1 65 (by decide) (by decide)]
      have e66 : N5 66 = M5 66 := g15.1 66 (by decide) (by decide)
      have m72 : jm_st M5 67 0 0 72 = M 72 := by
        show M5 72 = M 72
        exact f15 72 (by decide)
      refine ⟨by rw [e65, a5]; omega, by rw [e65, a5]; omega, by rw [e65, a5, c5], ?_, ?_⟩
      · rw [e66, b5, b4, b3, b2, b1]
        exact z_pu_by (z_pu_by (z_pu_by (z_pu_by (z_pu_by t4))))
      · rw [e65, a5, e66, b5, b4, b3, b2, b1, d5, d4, d3, d2, d1, m72]
        exact z_pu_eq (z_pu_eq (z_pu_eq (z_pu_eq (z_pu_eq t5))))
    · refine z_gh ?_
      rw [g5.1 999 (by decide) (by decide), g4.1 999 (by decide) (by decide), g3.1 999 (by decide) (by decide), g2.1 999 (by decide) (by decide), g1.1 999 (by decide) (by decide)]
      show M5 999 = M 999
      exact f15 999 (by decide)
end Z9
