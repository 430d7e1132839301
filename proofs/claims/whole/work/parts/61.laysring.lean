/-! RINGS: the reference's whole -/
section Y2
variable {w h : Int} {sl fo ba : Int → Int}
theorem p_168_99 {M : jm_Mem} {Q : jm_Q} {x1 u : Int} {fm : Int → Int} (hg : g_ok w h sl) (hbo : g_bo fo ba) (hX : r_X w h sl M) (hfo : M 69 = fo) (hba : M 70 = ba) (hm : ∀ v, 0 ≤ v → v < 73 → M 78 v = fm v) (htu : ∀ n, g_tl w h sl fm (g_it (g_ah w h sl fm) n u)) (hp : ∃ p, 1 ≤ p ∧ p ≤ 73 ∧ g_it (g_ah w h sl fm) p u = u) (hQ : ∀ (M' : jm_Mem) (p : Nat), g_mp (g_ah w h sl fm) u p → p ≤ 73 → M' 67 29 = (p : Int) → M' 67 30 = g_rc w h sl fo ba fm u p → (∀ i : Nat, i < p → M' 79 (i : Int) = g_it (g_ah w h sl fm) i u) → jm_fx [79] [29, 30] M M' → Q (some (jm_I 1)) M') : ∀ (k : Nat), k ≤ 73 → ∀ (i : Nat) (M1 : jm_Mem) (o5 : Option jm_V), i + k = 73 → (∀ j, 1 ≤ j → j ≤ i → g_it (g_ah w h sl fm) j u ≠ u) → M1 67 29 = (i : Int) → M1 67 30 = g_rc w h sl fo ba fm u i → (∀ j : Nat, j < i → M1 79 (j : Int) = g_it (g_ah w h sl fm) j u) → jm_fx [79] [29, 30] M M1 → jm_run 168 (99, [some (jm_R 67), some (jm_I x1), some (jm_I u), some (jm_I (g_it (g_ah w h sl fm) i u)), some (jm_I 1), o5], [], M1) Q := by
  obtain ⟨p0, p1, p2, p3⟩ := hp
  intro k
  induction k with
  | zero =>
    intro _ i M1 o5 hik hno
    exact absurd p3 (hno p0 p1 (by omega))
  | succ k ih =>
    intro hk i M1 o5 hik hno h3 h4 h79 hf
    have hti := htu i
    have hbi := g_Fb hg hti.1
    have hbE := g_Eb hg.1 hti.2.1
    have hrb := g_rc_b (w := w) (h := h) (sl := sl) (fm := fm) (u := u) hbo i
    have hrb1 := g_rc_b (w := w) (h := h) (sl := sl) (fm := fm) (u := u) hbo (i + 1)
    have hX1 := r_X_fx hf (by decide) (by decide) (by decide) hX
    have m78 : M1 78 (g_it (g_ah w h sl fm) i u) = fm (g_it (g_ah w h sl fm) i u) := by rw [hf.1 78 (by decide) (by decide)]; exact hm _ hbi.1 (by omega)
    have m4 : M1 69 = fo := by rw [hf.1 69 (by decide) (by decide)]; exact hfo
    have m5 : M1 70 = ba := by rw [hf.1 70 (by decide) (by decide)]; exact hba
    have f36 : ∀ j : Nat, j < i + 1 → jm_up (M1 79) (i : Int) (g_it (g_ah w h sl fm) i u) (j : Int) = g_it (g_ah w h sl fm) j u := by
      intro j hj
      by_cases q : j = i
      · rw [q, jm_up_s]
      · rw [jm_up_o (by omega)]
        exact h79 j (by omega)
    have hit : g_ah w h sl fm (g_it (g_ah w h sl fm) i u) = g_it (g_ah w h sl fm) (i + 1) u := rfl
    refine sg_168_99 ⟨fun q => absurd q (by omega), fun _ => ?_⟩
    simp only [jm_st_e, Nat.reduceEqDiff, reduceIte, h3, m78]
    refine ⟨by omega, by omega, ⟨by omega, by omega⟩, hbi.1, by omega, ?_⟩
    have hf2 : jm_fx [79] [29, 30] M1 (jm_st (jm_st M1 79 (i : Int) (g_it (g_ah w h sl fm) i u)) 67 29 ((i : Int) + 1)) := jm_fx_tr (jm_fx_st (by decide) (by decide)) (jm_fx_sx (by decide))
    rw [r_129 hg.1 (r_X_fx hf2 (by decide) (by decide) (by decide) hX1) hti.2.1]
    have fin : ∀ (c : Int), g_rc w h sl fo ba fm u i + c = g_rc w h sl fo ba fm u (i + 1) → ∀ (o5 : Option jm_V), jm_cl 166 [jm_R 67, jm_I (g_it (g_ah w h sl fm) i u)] (jm_st (jm_st (jm_st M1 79 (i : Int) (g_it (g_ah w h sl fm) i u)) 67 29 ((i : Int) + 1)) 67 30 (g_rc w h sl fo ba fm u i + c)) (fun r M2 => ∃ r2 : Int, r = some (jm_I r2) ∧ (r2 = u → jm_run 168 (99, [some (jm_R 67), some (jm_I x1), some (jm_I u), some (jm_I r2), some (jm_I 0), o5], [], M2) Q) ∧ (¬ r2 = u → jm_run 168 (99, [some (jm_R 67), some (jm_I x1), some (jm_I u), some (jm_I r2), some (jm_I 1), o5], [], M2) Q)) := by
      intro c hc o5
      have hf3 : jm_fx [79] [29, 30] M1 (jm_st (jm_st (jm_st M1 79 (i : Int) (g_it (g_ah w h sl fm) i u)) 67 29 ((i : Int) + 1)) 67 30 (g_rc w h sl fo ba fm u i + c)) := jm_fx_tr hf2 (jm_fx_sx (by decide))
      have q29 : (jm_st (jm_st (jm_st M1 79 (i : Int) (g_it (g_ah w h sl fm) i u)) 67 29 ((i : Int) + 1)) 67 30 (g_rc w h sl fo ba fm u i + c)) 67 29 = ((i + 1 : Nat) : Int) := by
        simp only [jm_st_e, Nat.reduceEqDiff, reduceIte]
        rw [jm_up_o (by omega), jm_up_s]
        omega
      have q30 : (jm_st (jm_st (jm_st M1 79 (i : Int) (g_it (g_ah w h sl fm) i u)) 67 29 ((i : Int) + 1)) 67 30 (g_rc w h sl fo ba fm u i + c)) 67 30 = g_rc w h sl fo ba fm u (i + 1) := by
        simp only [jm_st_e, Nat.reduceEqDiff, reduceIte]
        rw [jm_up_s, hc]
      have q79 : ∀ j : Nat, j < i + 1 → (jm_st (jm_st (jm_st M1 79 (i : Int) (g_it (g_ah w h sl fm) i u)) 67 29 ((i : Int) + 1)) 67 30 (g_rc w h sl fo ba fm u i + c)) 79 (j : Int) = g_it (g_ah w h sl fm) j u := by
        intro j hj
        simp only [jm_st_e, Nat.reduceEqDiff, reduceIte]
        exact f36 j hj
      rw [r_166 hg (r_X_fx hf3 (by decide) (by decide) (by decide) hX1) (fm := fm) (by simp only [jm_st_e, Nat.reduceEqDiff, reduceIte]; exact m78) hti]
      refine ⟨_, rfl, fun d => ?_, fun d => ?_⟩
      · refine sg_168_99 ⟨fun _ => ⟨by omega, by omega, ?_⟩, fun q => absurd rfl q⟩
        exact hQ _ (i + 1) ⟨by omega, by rw [← hit]; exact d, fun j j1 j2 => hno j j1 (by omega)⟩ (by omega) q29 q30 q79 (jm_fx_tr hf hf3)
      · rw [hit] at d ⊢
        refine ih (by omega) (i + 1) _ _ (by omega) ?_ q29 q30 q79 (jm_fx_tr hf hf3)
        intro j j1 j2
        by_cases q : j = i + 1
        · rw [q]; exact d
        · exact hno j j1 (by omega)
    have e1 : g_rc w h sl fo ba fm u (i + 1) = g_rc w h sl fo ba fm u i + (if g_rt w h sl (fm (g_it (g_ah w h sl fm) i u)) = g_it (g_ah w h sl fm) i u then fo (fm (g_it (g_ah w h sl fm) i u)) else ba (fm (g_it (g_ah w h sl fm) i u))) := rfl
    simp only [jm_st_e, Nat.reduceEqDiff, reduceIte]
    rw [jm_up_o (by omega), h4, m4, m5]
    refine ⟨_, rfl, fun b => ⟨hbE.1, hbE.2.1, ?_, ?_⟩, fun b => ⟨hbE.1, hbE.2.1, ?_, ?_⟩⟩
    · rw [if_pos b] at e1
      rw [← e1]
      exact ⟨by omega, by omega⟩
    · rw [if_pos b] at e1
      exact fin _ e1.symm _
    · rw [if_neg b] at e1
      rw [← e1]
      exact ⟨by omega, by omega⟩
    · rw [if_neg b] at e1
      exact fin _ e1.symm _
theorem p_168 {M : jm_Mem} {Q : jm_Q} (hg : g_ok w h sl) (hbo : g_bo fo ba) (hX : r_X w h sl M) (hfo : M 69 = fo) (hba : M 70 = ba) (hQ0 : g_circ w h sl fo ba → ∀ M', jm_fx [77, 78, 79] [29, 30] M M' → Q (some (jm_I 0)) M') (hQ1 : ¬ g_circ w h sl fo ba → ∀ s' g, b_ff (g_fw w h sl fo ba) (b_n (g_fw w h sl fo ba) (g_fs w h sl).length (b_0 72)) = some (s', g) → ∀ (M' : jm_Mem) (p : Nat), g_mp (g_ah w h sl s'.2) (g_it (g_ah w h sl s'.2) (g_fs w h sl).length g) p → p ≤ 73 → M' 67 29 = (p : Int) → M' 67 30 = g_rc w h sl fo ba s'.2 (g_it (g_ah w h sl s'.2) (g_fs w h sl).length g) p → (∀ i : Nat, i < p → M' 79 (i : Int) = g_it (g_ah w h sl s'.2) i (g_it (g_ah w h sl s'.2) (g_fs w h sl).length g)) → jm_fx [77, 78, 79] [29, 30] M M' → Q (some (jm_I 1)) M') : jm_cl 168 [jm_R 67] M Q := by
  have hN := g_fs_len (w := w) (h := h) (sl := sl)
  have XX : ∀ M1, jm_fr [77, 78] M M1 → r_X w h sl M1 ∧ M1 69 = fo ∧ M1 70 = ba := by
    intro M1 hf
    refine ⟨?_, by rw [hf 69 (by decide)]; exact hfo, by rw [hf 70 (by decide)]; exact hba⟩
    unfold r_X at hX ⊢
    rw [hf 67 (by decide), hf 68 (by decide)]
    exact hX
  have FX : ∀ M1, jm_fr [77, 78] M M1 → jm_fx [77, 78, 79] [29, 30] M M1 := fun M1 hf => ⟨fun c a _ => hf c (fun q => a (by simp at q ⊢; omega)), fun i _ => by rw [hf 67 (by decide)]⟩
  -- rounds
  have L : ∀ k, k ≤ ((g_fs w h sl).length : Int) → ∀ (n : Nat) (M1 : jm_Mem) (o3 o4 o5 : Option jm_V), k = (n : Int) → jm_fr [77, 78] M M1 → y_rp (b_n (g_fw w h sl fo ba) n (b_0 72)) M1 → b_bd 100 (216 * (n : Int)) (b_n (g_fw w h sl fo ba) n (b_0 72)) → jm_run 168 (27, [some (jm_R 67), some (jm_I ((g_fs w h sl).length : Int)), some (jm_I k), o3, o4, o5], [], M1) Q := by
    refine jm_dn ?_
    intro k hk ih n M1 o3 o4 o5 hkn hf hr hbd
    obtain ⟨hX1, m4, m5⟩ := XX M1 hf
    refine sg_168_27 ⟨fun a => ?_, fun a => ?_⟩
    · refine p_168_32 (t := 216 * (n : Int)) (s := b_n (g_fw w h sl fo ba) n (b_0 72)) hg hX1 m4 m5 hbo (by omega) (by omega) (by omega) (by omega) ?_ 0 (by omega) (by omega) _ _ _ M1 (jm_fr_rfl _ _) hr (fun v b hb => by have := hbd v b hb; omega) rfl
      intro M2 o3 o4 o5 q1 q2 q3
      refine ih a (n + 1) M2 _ _ _ (by omega) (jm_fr_tr hf q1) q2 ?_
      rw [show 216 * ((n + 1 : Nat) : Int) = 216 * (n : Int) + 216 by omega]
      exact q3
    · have hn : n = (g_fs w h sl).length := by omega
      subst hn
      refine p_167 (t := 216 * ((g_fs w h sl).length : Int)) hg hX1 m4 m5 hbo hbd (by omega) (by omega) hr ?_ ?_
      · intro q
        refine ⟨-1, rfl, fun _ => ⟨by omega, by omega, hQ0 (g_circ_of hg (Or.inl rfl) (b_ff_fl.1 q)) M1 (FX M1 hf)⟩, fun q => by omega⟩
      · intro s' g M2 hff hr2 hf2
        have hnc : ¬ g_circ w h sl fo ba := by
          intro hc
          have := b_ff_fl.2 (g_fw_end hg hc (Or.inl rfl) (show (g_fs w h sl).length < (g_fs w h sl).length + 2 by omega))
          rw [hff] at this
          cases this
        obtain ⟨htl, p0, p1, p2, p3⟩ := g_ring hg hff
        have hgb := g_Fb hg (htl 0).1
        have hfM2 := jm_fr_tr hf hf2
        obtain ⟨hX2, n4, n5⟩ := XX M2 hfM2
        refine ⟨g, rfl, fun q => by have : 0 ≤ g := hgb.1; omega, fun _ => ?_⟩
        have L1 : ∀ k, k ≤ ((g_fs w h sl).length : Int) → ∀ (i : Nat) (o4 o5 : Option jm_V), k = (i : Int) → jm_run 168 (80, [some (jm_R 67), some (jm_I ((g_fs w h sl).length : Int)), some (jm_I (g_it (g_ah w h sl s'.2) i g)), some (jm_I k), o4, o5], [], M2) Q := by
          refine jm_dn ?_
          intro k hk ih i o4 o5 hki
          have hti := htl i
          have hbi := g_Fb hg hti.1
          refine sg_168_80 ⟨fun a => ?_, fun a => ?_⟩
          · rw [r_166 hg hX2 (fm := s'.2) (hr2 _ hbi.1 (by omega)).2 hti]
            exact ⟨_, rfl, ⟨by omega, by omega⟩, ih a (i + 1) _ _ (by omega)⟩
          · have hi : i = (g_fs w h sl).length := by omega
            rw [hi]
            have hf3 : jm_fx [79] [29, 30] M2 (jm_st (jm_st M2 67 29 0) 67 30 0) := jm_fx_tr (jm_fx_sx (by decide)) (jm_fx_sx (by decide))
            refine p_168_99 (M := M2) hg hbo hX2 n4 n5 (fun v a b => (hr2 v a b).2) (fun n => by rw [← g_it_add]; exact htl _) ⟨p0, p1, by omega, p3⟩ ?_ 73 (Nat.le_refl _) 0 _ _ (by omega) (fun j a b => by omega) ?_ ?_ (fun j hj => by omega) hf3
            · intro M' p q1 q2 q3 q4 q5 q6
              exact hQ1 hnc s' g hff M' p q1 q2 q3 q4 q5 (jm_fx_tr (FX M2 hfM2) (jm_fx_mo q6 (by decide) (by decide)))
            · simp only [jm_st_e, Nat.reduceEqDiff, reduceIte]
              rw [jm_up_o (by omega), jm_up_s]
              rfl
            · simp only [jm_st_e, Nat.reduceEqDiff, reduceIte]
              rw [jm_up_s]
              rfl
        exact L1 0 (by omega) 0 _ _ rfl
  have L0 : ∀ f, f ≤ 73 → 0 ≤ f → ∀ M1 : jm_Mem, jm_fr [77, 78] M M1 → (∀ v, 0 ≤ v → v < f → M1 77 v = 100000000 ∧ M1 78 v = -1) → jm_run 168 (2, [some (jm_R 67), some (jm_I f), none, none, none, none], [], M1) Q := by
    refine jm_dn ?_
    intro f hf ihf f0 M1 hfr hv1
    refine sg_168_2 ⟨fun a => ⟨f0, by omega, f0, by omega, ⟨by omega, by omega⟩, ihf (by omega) (by omega) _ ?_ ?_⟩, fun a => ⟨by omega, by omega, ?_⟩⟩
    · exact jm_fr_tr hfr (jm_fr_tr (jm_fr_st (by decide)) (jm_fr_st (by decide)))
    · intro v v0 v1
      simp only [jm_st_e, Nat.reduceEqDiff, reduceIte]
      by_cases q : v = f
      · rw [q, jm_up_s, jm_up_s]
        exact ⟨rfl, rfl⟩
      · rw [jm_up_o q, jm_up_o q]
        exact hv1 v v0 (by omega)
    · have hf2 : jm_fr [77, 78] M (jm_st M1 77 72 0) := jm_fr_tr hfr (jm_fr_st (by decide))
      rw [r_131 hg.1 (XX _ hf2).1]
      refine ⟨_, rfl, L 0 (by omega) 0 _ _ _ _ rfl hf2 ?_ (b_bd_0 _ _ _ (by omega))⟩
      intro v v0 v1
      simp only [jm_st_e, Nat.reduceEqDiff, reduceIte]
      show _ = ((b_0 72).1 v).getD 100000000 ∧ _ = (b_0 72).2 v
      unfold b_0
      dsimp only
      by_cases q : v = 72
      · rw [q, jm_up_s, if_pos rfl]
        exact ⟨rfl, (hv1 72 (by omega) (by omega)).2⟩
      · rw [jm_up_o q, if_neg q]
        exact hv1 v v0 (by omega)
  exact sc_168 (L0 0 (by omega) (by omega) M (jm_fr_rfl _ _) (fun v a b => by omega))
end Y2
