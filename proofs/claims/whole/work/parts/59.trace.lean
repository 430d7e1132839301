/-! RINGS: as the class traces them -/
def g_mp (a : Int → Int) (u : Int) (p : Nat) : Prop := 1 ≤ p ∧ g_it a p u = u ∧ ∀ j, 1 ≤ j → j < p → g_it a j u ≠ u
theorem g_mp_un {a : Int → Int} {u : Int} {p q : Nat} (hp : g_mp a u p) (hq : g_mp a u q) : p = q := by
  obtain ⟨p1, p2, p3⟩ := hp
  obtain ⟨q1, q2, q3⟩ := hq
  rcases Nat.lt_trichotomy p q with h | h | h
  · exact absurd p2 (q3 p p1 h)
  · exact h
  · exact absurd q2 (p3 q q1 h)
section T1
variable {w h : Int} {sl fo ba fm : Int → Int}
theorem g_ah_ne (hg : g_ok w h sl) {v : Int} (hv : g_tl w h sl fm v) : g_ah w h sl fm v ≠ v ∧ ((g_lf w h sl (fm v) = g_ah w h sl fm v) ↔ g_rt w h sl (fm v) = v) := by
  obtain ⟨-, hE, hl⟩ := hv
  have htwo := g_two hg.1 hE
  unfold g_ah
  by_cases q : g_lf w h sl (fm v) = v
  · rw [if_pos q]
    refine ⟨fun r => htwo (q.trans r.symm), ?_⟩
    constructor
    · intro r
      exact absurd r htwo
    · intro r
      exact absurd (q.trans r.symm) htwo
  · rw [if_neg q]
    exact ⟨q, ⟨fun _ => hl.resolve_left q, fun _ => rfl⟩⟩
theorem e_4 {M : jm_Mem} {v : Int} (hg : g_ok w h sl) (hT : g_tb w h sl M) (hm : M 35 v = fm v) (hv : g_tl w h sl fm v) (Q : jm_Q) : jm_cl 4 [jm_R 33, jm_R 1, jm_I v] M Q ↔ Q (some (jm_I (g_ah w h sl fm v))) M := by
  refine jm_cl_e (fun Q hq => sc_4 ?_) Q
  have hb := g_Fb hg hv.1
  have he := g_Eb hg.1 hv.2.1
  rw [hm]
  refine ⟨hb.1, by omega, fun a => by omega, fun a => ⟨hb.1, by omega, ?_⟩⟩
  rw [e_25 hg.1 hT hv.2.1]
  exact ⟨_, rfl, hq⟩
theorem p_3 {M : jm_Mem} {Q : jm_Q} {g : Int} (hg : g_ok w h sl) (hbo : g_bo fo ba) (hT : g_tb w h sl M) (hfo : M 4 = fo) (hba : M 5 = ba) (hgm : M 33 5 = g) (hm : ∀ v, 0 ≤ v → v < 73 → M 35 v = fm v) (htl : ∀ n, g_tl w h sl fm (g_it (g_ah w h sl fm) n g)) (hp : ∃ p, 1 ≤ p ∧ p ≤ (g_fs w h sl).length ∧ g_it (g_ah w h sl fm) p (g_it (g_ah w h sl fm) (g_fs w h sl).length g) = g_it (g_ah w h sl fm) (g_fs w h sl).length g) (hQ : ∀ (M' : jm_Mem) (p : Nat), g_mp (g_ah w h sl fm) (g_it (g_ah w h sl fm) (g_fs w h sl).length g) p → p ≤ 73 → M' 33 3 = (p : Int) → M' 33 4 = g_rc w h sl fo ba fm (g_it (g_ah w h sl fm) (g_fs w h sl).length g) p → (∀ i : Nat, i < p → M' 36 (i : Int) = g_it (g_ah w h sl fm) i (g_it (g_ah w h sl fm) (g_fs w h sl).length g)) → jm_fr [33, 36] M M' → Q none M') : jm_cl 3 [jm_R 33, jm_R 1] M Q := by
  have hN := g_fs_len (w := w) (h := h) (sl := sl)
  generalize hu : g_it (g_ah w h sl fm) (g_fs w h sl).length g = u at hp hQ
  obtain ⟨p0, p1, p2, p3⟩ := hp
  have htu : ∀ n, g_tl w h sl fm (g_it (g_ah w h sl fm) n u) := by
    intro n
    rw [← hu, ← g_it_add]
    exact htl _
  have L2 : ∀ k, k ≤ ((g_fs w h sl).length : Int) → ∀ (i : Nat) (M1 : jm_Mem) (o5 : Option jm_V), k = (i : Int) → (∀ j, 1 ≤ j → j ≤ i → g_it (g_ah w h sl fm) j u ≠ u) → M1 33 3 = (i : Int) → M1 33 4 = g_rc w h sl fo ba fm u i → (∀ j : Nat, j < i → M1 36 (j : Int) = g_it (g_ah w h sl fm) j u) → jm_fr [33, 36] M M1 → jm_run 3 (26, [some (jm_R 33), some (jm_R 1), some (jm_I u), some (jm_I (g_it (g_ah w h sl fm) i u)), some (jm_I k), o5], [], M1) Q := by
    refine jm_dn ?_
    intro k hk ih i M1 o5 hki hno h3 h4 h36 hf
    have hip : i < p0 := by
      apply Nat.lt_of_not_le
      intro q
      exact hno p0 p1 q p3
    have hT1 := g_tb_fr hf (by decide) hT
    have hti := htu i
    have hbi := g_Fb hg hti.1
    have hne := g_ah_ne hg hti
    have hrb := g_rc_b (w := w) (h := h) (sl := sl) (fm := fm) (u := u) hbo i
    have hbe := hbo (fm (g_it (g_ah w h sl fm) i u))
    have m35 : ∀ v, 0 ≤ v → v < 73 → M1 35 v = fm v := fun v a b => by rw [hf 35 (by decide)]; exact hm v a b
    refine sg_3_26 ?_
    simp only [jm_st_e, Nat.reduceEqDiff, reduceIte, h3]
    rw [t_fc hg hT1]
    refine ⟨fun a => ⟨by omega, by omega, ⟨by omega, by omega⟩, ?_⟩, fun a => by omega⟩
    have hf2 : jm_fr [33, 36] M1 (jm_st (jm_st M1 36 (i : Int) (g_it (g_ah w h sl fm) i u)) 33 3 ((i : Int) + 1)) := jm_fr_tr (jm_fr_st (by decide)) (jm_fr_st (by decide))
    have hT2 := g_tb_fr hf2 (by decide) hT1
    rw [e_4 hg hT2 (by rw [hf2 35 (by decide)]; exact m35 _ hbi.1 (by omega)) hti]
    refine ⟨_, rfl, fun c => absurd c hne.1, fun c => ⟨hbi.1, by omega, ?_⟩⟩
    simp only [jm_st_e, Nat.reduceEqDiff, reduceIte]
    rw [m35 _ hbi.1 (by omega), e_26 hg.1 hT2 hti.2.1]
    simp only [jm_st_e, Nat.reduceEqDiff, reduceIte]
    have m4 : M1 4 = fo := by rw [hf 4 (by decide)]; exact hfo
    have m5 : M1 5 = ba := by rw [hf 5 (by decide)]; exact hba
    rw [jm_up_o (by omega), m4, m5, h4]
    have hcost : (if g_lf w h sl (fm (g_it (g_ah w h sl fm) i u)) = g_ah w h sl fm (g_it (g_ah w h sl fm) i u) then fo (fm (g_it (g_ah w h sl fm) i u)) else ba (fm (g_it (g_ah w h sl fm) i u))) = (if g_rt w h sl (fm (g_it (g_ah w h sl fm) i u)) = g_it (g_ah w h sl fm) i u then fo (fm (g_it (g_ah w h sl fm) i u)) else ba (fm (g_it (g_ah w h sl fm) i u))) := by
      by_cases q : g_rt w h sl (fm (g_it (g_ah w h sl fm) i u)) = g_it (g_ah w h sl fm) i u
      · rw [if_pos q, if_pos (hne.2.2 q)]
      · rw [if_neg q, if_neg (fun r => q (hne.2.1 r))]
    rw [hcost]
    have hsum : g_rc w h sl fo ba fm u i + (if g_rt w h sl (fm (g_it (g_ah w h sl fm) i u)) = g_it (g_ah w h sl fm) i u then fo (fm (g_it (g_ah w h sl fm) i u)) else ba (fm (g_it (g_ah w h sl fm) i u))) = g_rc w h sl fo ba fm u (i + 1) := rfl
    have hrb1 := g_rc_b (w := w) (h := h) (sl := sl) (fm := fm) (u := u) hbo (i + 1)
    have hit : g_ah w h sl fm (g_it (g_ah w h sl fm) i u) = g_it (g_ah w h sl fm) (i + 1) u := rfl
    have f36 : ∀ j : Nat, j < i + 1 → jm_up (M1 36) (i : Int) (g_it (g_ah w h sl fm) i u) (j : Int) = g_it (g_ah w h sl fm) j u := by
      intro j hj
      by_cases q : j = i
      · rw [q, jm_up_s]
      · rw [jm_up_o (by omega)]
        exact h36 j (by omega)
    refine ⟨_, rfl, by rw [hsum]; exact ⟨by omega, by omega⟩, fun d => ?_, fun d => ⟨⟨by omega, by omega⟩, ?_⟩⟩
    · rw [hsum]
      refine hQ _ (i + 1) ⟨by omega, ?_, fun j j1 j2 => hno j j1 (by omega)⟩ (by omega) ?_ ?_ ?_ ?_
      · rw [← hit]; exact d
      · simp only [jm_st_e, Nat.reduceEqDiff, reduceIte]
        rw [jm_up_o (by omega), jm_up_s]
        omega
      · simp only [jm_st_e, Nat.reduceEqDiff, reduceIte]
        rw [jm_up_s]
      · intro j hj
        simp only [jm_st_e, Nat.reduceEqDiff, reduceIte]
        exact f36 j hj
      · exact jm_fr_tr hf (jm_fr_tr hf2 (jm_fr_st (by decide)))
    · rw [hsum]
      rw [hit]
      refine ih a (i + 1) _ _ (by omega) ?_ ?_ ?_ ?_ ?_
      · intro j j1 j2
        by_cases q : j = i + 1
        · rw [q, ← hit]; exact d
        · exact hno j j1 (by omega)
      · simp only [jm_st_e, Nat.reduceEqDiff, reduceIte]
        rw [jm_up_o (by omega), jm_up_s]
        omega
      · simp only [jm_st_e, Nat.reduceEqDiff, reduceIte]
        rw [jm_up_s]
      · intro j hj
        simp only [jm_st_e, Nat.reduceEqDiff, reduceIte]
        exact f36 j hj
      · exact jm_fr_tr hf (jm_fr_tr hf2 (jm_fr_st (by decide)))
  have L1 : ∀ k, k ≤ ((g_fs w h sl).length : Int) → ∀ (i : Nat), k = (i : Int) → jm_run 3 (5, [some (jm_R 33), some (jm_R 1), some (jm_I (g_it (g_ah w h sl fm) i g)), some (jm_I k), none, none], [], M) Q := by
    refine jm_dn ?_
    intro k hk ih i hki
    have hti := htl i
    have hbi := g_Fb hg hti.1
    refine sg_3_5 ?_
    rw [t_fc hg hT]
    refine ⟨fun a => ?_, fun a => ?_⟩
    · rw [e_4 hg hT (hm _ hbi.1 (by omega)) hti]
      exact ⟨_, rfl, ⟨by omega, by omega⟩, ih a (i + 1) (by omega)⟩
    · have hi : i = (g_fs w h sl).length := by omega
      rw [hi, hu]
      refine L2 0 (by omega) 0 _ _ rfl (fun j a b => by omega) ?_ ?_ (fun j hj => by omega) (jm_fr_tr (jm_fr_st (by decide)) (jm_fr_st (by decide)))
      · simp only [jm_st_e, Nat.reduceEqDiff, reduceIte]
        rw [jm_up_o (by omega), jm_up_s]
        rfl
      · simp only [jm_st_e, Nat.reduceEqDiff, reduceIte]
        rw [jm_up_s]
        rfl
  refine sc_3 ?_
  rw [hgm]
  exact L1 0 (by omega) 0 rfl
end T1
