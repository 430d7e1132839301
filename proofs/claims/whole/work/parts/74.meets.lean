/-! POURING: the reference meets what nodes take -/
section Q5
variable {w h : Int} {sl fo ba : Int → Int} {s : Int}
/-- what the reference's memory holds of gives and takes -/
def x_gt (w h : Int) (σ : k_S) (M : jm_Mem) : Prop := ∀ n, g_nd w h n → M 90 n = σ.2.1 n ∧ M 83 n = σ.2.2.1 n
theorem p_202 {M : jm_Mem} {K0 : Int} {σ0 : k_S} {Q : jm_Q} (hg : g_ok w h sl) (hbo : g_bo fo ba) (hs : g_nd w h s) (hX : r_X w h sl M) (hfo : M 69 = fo) (hba : M 70 = ba) (hr0 : 0 ≤ M 71 s) (hr1 : M 71 s ≤ 1000000) (hiv : k_iv w h sl fo ba K0 σ0) (hK0 : 0 ≤ K0) (hK : K0 + M 71 s ≤ 100000000) (htr : x_tr w h sl σ0 M) (hgt : x_gt w h σ0 M) (hQ : ∀ M', x_tr w h sl (k_po w h sl fo ba s (M 71 s) σ0).2 M' → x_gt w h (k_po w h sl fo ba s (M 71 s) σ0).2 M' → jm_fx [80, 83, 85, 86, 87, 88, 89, 90] [34, 35, 36, 45] M M' → Q (some (jm_I (M 71 s - (k_po w h sl fo ba s (M 71 s) σ0).1))) M') : jm_cl 202 [jm_R 67, jm_I s] M Q := by
  have sb := g_nb hg.1 hs
  have L : ∀ (n : Nat) (rest : Int) (σ1 : k_S) (K1 : Int) (M1 : jm_Mem) (o3 o4 : Option jm_V), rest = (n : Int) → rest ≤ M 71 s → k_iv w h sl fo ba K1 σ1 → 0 ≤ K1 → K1 + rest ≤ K0 + M 71 s → x_tr w h sl σ1 M1 → x_gt w h σ1 M1 → jm_fx [80, 83, 85, 86, 87, 88, 89, 90] [34, 35, 36, 45] M M1 → k_po w h sl fo ba s (M 71 s) σ0 = k_po w h sl fo ba s rest σ1 → jm_run 202 (5, [some (jm_R 67), some (jm_I s), some (jm_I rest), o3, o4], [], M1) Q := by
    intro n
    induction n using Nat.strongRecOn with
    | ind n ih =>
      intro rest σ1 K1 M1 o3 o4 hn hrr hiv1 hK10 hK1 htr1 hgt1 hf hpo
      have hX1 := r_X_fx hf (by decide) (by decide) (by decide) hX
      have m4 : M1 69 = fo := by rw [hf.1 69 (by decide) (by decide)]; exact hfo
      have m5 : M1 70 = ba := by rw [hf.1 70 (by decide) (by decide)]; exact hba
      have m71 : M1 71 = M 71 := hf.1 71 (by decide) (by decide)
      have stop : ∀ M2, k_po w h sl fo ba s rest σ1 = (rest, σ1) → x_tr w h sl σ1 M2 → x_gt w h σ1 M2 → jm_fx [80, 83, 85, 86, 87, 88, 89, 90] [34, 35, 36, 45] M M2 → 0 ≤ s ∧ s < 36 ∧ jm_in (M2 71 s - rest) ∧ Q (some (jm_I (M2 71 s - rest))) M2 := by
        intro M2 q h2 h3 h4
        rw [hpo, q] at hQ
        have := hQ M2 h2 h3 h4
        dsimp only at this
        rw [h4.1 71 (by decide) (by decide)]
        exact ⟨sb.1, sb.2, ⟨by omega, by omega⟩, this⟩
      refine sg_202_5 ⟨fun a => ?_, fun a => stop M1 (k_po_0 a) htr1 hgt1 hf⟩
      have hwt : ∀ m, g_nd w h m → (0 < σ1.2.1 m ↔ (((-1 : Int) < 0 ∧ 0 < M1 90 m) ∨ (¬ (-1 : Int) < 0 ∧ m = -1))) := by
        intro m hm
        rw [(hgt1 m hm).1]
        omega
      refine p_175 (rn := σ1.1) (wt := σ1.2.1) hg hbo hX1 m4 m5 (fun e he => ⟨htr1.1 e he, by have h1 := hiv1.1 e he; have h2 := hbo e; omega⟩) hwt hs ?_ ?_
      · intro st se M2 hw hk hR hf2
        refine ⟨1, rfl, fun q => absurd q (by omega), fun _ => ?_⟩
        have hX2 := r_X_fx hf2 (by decide) (by decide) (by decide) hX1
        have htr2 : x_tr w h sl σ1 M2 := by
          obtain ⟨u1, u2, u3, u4⟩ := htr1
          exact ⟨fun e he => by rw [hf2.1 80 (by decide) (by decide)]; exact u1 e he, by rw [hf2.2 34 (by decide)]; exact u2, by rw [hf2.2 35 (by decide)]; exact u3, by rw [hf2.2 36 (by decide)]; exact u4⟩
        have hgt2 : x_gt w h σ1 M2 := fun m hm => by rw [hf2.1 90 (by decide) (by decide), hf2.1 83 (by decide) (by decide)]; exact hgt1 m hm
        obtain ⟨l1, l2, l3⟩ := k_lst hg hs hbo hiv1.1 hw
        obtain ⟨f0, l, se', r1, r2, r3, r4, r5, r6, r7, r8, r9, r10, r11, r12⟩ := k_found hg hs hiv1.1 hw
        have eb := g_nb hg.1 r7
        have hln := k_ok_len hg.1 r9
        have m45 : M2 67 45 - 1 = (l.length : Int) := by rw [hR.2.1, r10]; omega
        have hend : M2 85 (l.length : Int) = k_en st := by
          have hg1 : l.getLast? = some (l.getLast r11) := List.getLast?_eq_some_getLast r11
          have : st.reverse[l.length]? = some (l.getLast r11) := by
            rw [r1]
            obtain ⟨n, hn⟩ : ∃ n, l.length = n + 1 := ⟨l.length - 1, by have := List.length_pos_iff.2 r11; omega⟩
            rw [hn]
            show l[n]? = some (l.getLast r11)
            rw [List.getLast?_eq_getElem?, show l.length - 1 = n by omega] at hg1
            exact hg1
          rw [(k_rs_at hR.1 l.length _ this).1, r6]
          obtain ⟨l', g', hl'⟩ : ∃ l' g', l = l' ++ [g'] := ⟨l.dropLast, l.getLast r11, (List.dropLast_concat_getLast r11).symm⟩
          have e1 : k_la s l = g'.1 := by rw [hl', k_la_app]
          rw [e1]
          have e2 : l.getLast? = some g' := by rw [hl']; simp
          rw [hg1] at e2
          injection e2 with e2
          rw [e2]
        have hb := k_by_b hg hs hiv1.1 a hw
        have hby : k_by sl fo ba st rest σ1 = (if (if k_am sl fo ba σ1.1 (k_wy st) 100000000 < rest then k_am sl fo ba σ1.1 (k_wy st) 100000000 else rest) < σ1.2.1 (k_en st) then (if k_am sl fo ba σ1.1 (k_wy st) 100000000 < rest then k_am sl fo ba σ1.1 (k_wy st) 100000000 else rest) else σ1.2.1 (k_en st)) := by
          unfold k_by
          have hwb := hiv1.2.1 _ r7
          rw [l3 _ (by split <;> omega)]
          generalize k_am sl fo ba σ1.1 (k_wy st) 100000000 = x
          generalize σ1.2.1 (k_en st) = y
          by_cases c1 : y < rest
          · rw [if_pos c1]
            by_cases c2 : x < y
            · rw [if_pos c2, if_pos (show x < rest by omega), if_pos c2]
            · rw [if_neg c2]
              by_cases c3 : x < rest
              · rw [if_pos c3, if_neg c2]
              · rw [if_neg c3, if_neg (by omega)]
          · rw [if_neg c1]
            by_cases c2 : x < rest
            · rw [if_pos c2, if_pos (show x < y by omega)]
            · rw [if_neg c2]
              by_cases c3 : rest < y
              · rw [if_pos c3]
              · rw [if_neg c3]
                omega
        rw [m45, hend]
        refine ⟨⟨by omega, by omega⟩, by omega, by omega, ?_⟩
        refine p_176 hg hbo hs hX2 (by rw [hf2.1 69 (by decide) (by decide)]; exact m4) (by rw [hf2.1 70 (by decide) (by decide)]; exact m5) hiv1.1 hw hR htr2.1 ?_
        rw [(hgt2 _ r7).1]
        have fin : ∀ v, v = k_by sl fo ba st rest σ1 → jm_cl 177 [jm_R 67, jm_I v] M2 (fun r M3 => r = none ∧ jm_in (rest - v) ∧ (0 : Int) ≤ k_en st ∧ k_en st < 36 ∧ jm_in (M3 90 (k_en st) - v) ∧ (0 : Int) ≤ k_en st ∧ k_en st < 36 ∧ (0 : Int) ≤ s ∧ s < 36 ∧ jm_in (((jm_st M3 90 (k_en st) (M3 90 (k_en st) - v)) 83 s) + v) ∧ (0 : Int) ≤ s ∧ s < 36 ∧ (0 : Int) ≤ k_en st ∧ k_en st < 36 ∧ jm_in (((jm_st (jm_st M3 90 (k_en st) (M3 90 (k_en st) - v)) 83 s (((jm_st M3 90 (k_en st) (M3 90 (k_en st) - v)) 83 s) + v)) 83 (k_en st)) - v) ∧ (0 : Int) ≤ k_en st ∧ k_en st < 36 ∧ jm_run 202 (5, [some (jm_R 67), some (jm_I s), some (jm_I (rest - v)), some (jm_I (k_en st)), some (jm_I v)], [], (jm_st (jm_st (jm_st M3 90 (k_en st) (M3 90 (k_en st) - v)) 83 s (((jm_st M3 90 (k_en st) (M3 90 (k_en st) - v)) 83 s) + v)) 83 (k_en st) (((jm_st (jm_st M3 90 (k_en st) (M3 90 (k_en st) - v)) 83 s (((jm_st M3 90 (k_en st) (M3 90 (k_en st) - v)) 83 s) + v)) 83 (k_en st)) - v))) Q) := by
          intro v hv
          subst hv
          have hivp := k_iv_pu hg hs hiv1 a hw
          refine p_177 (fo := fo) (ba := ba) hg hbo hs hX2 hiv1.1 hw hR htr2 ⟨hiv1.2.2.2.1, by have := hiv1.2.2.2.2.1; omega⟩ (by omega) (by omega) ?_
          intro M3 htr3 hf3
          have g90 : ∀ m, g_nd w h m → M3 90 m = σ1.2.1 m := fun m hm => by rw [hf3.1 90 (by decide) (by decide)]; exact (hgt2 m hm).1
          have g83 : ∀ m, g_nd w h m → M3 83 m = σ1.2.2.1 m := fun m hm => by rw [hf3.1 83 (by decide) (by decide)]; exact (hgt2 m hm).2
          have w1 := hiv1.2.1 _ r7
          have v1 := hiv1.2.2.1 _ r7
          have v2 := hiv1.2.2.1 _ hs
          simp only [jm_st_e, Nat.reduceEqDiff, reduceIte]
          rw [jm_up_o r12, g90 _ r7, g83 _ hs, g83 _ r7]
          refine ⟨trivial, ⟨by omega, by omega⟩, eb.1, eb.2, ⟨by omega, by omega⟩, eb.1, eb.2, sb.1, sb.2, ⟨by omega, by omega⟩, sb.1, sb.2, eb.1, eb.2, ⟨by omega, by omega⟩, eb.1, eb.2, ?_⟩
          refine ih (rest - k_by sl fo ba st rest σ1).toNat (by omega) (rest - k_by sl fo ba st rest σ1) (k_pu sl s st (k_by sl fo ba st rest σ1) σ1) (K1 + k_by sl fo ba st rest σ1) _ _ _ (by omega) (by omega) hivp (by omega) (by omega) ?_ ?_ ?_ ?_
          · obtain ⟨u1, u2, u3, u4⟩ := htr3
            refine ⟨fun e he => ?_, ?_, ?_, ?_⟩
            · simp only [jm_st_e, Nat.reduceEqDiff, reduceIte]
              exact u1 e he
            · simp only [jm_st_e, Nat.reduceEqDiff, reduceIte]
              exact u2
            · simp only [jm_st_e, Nat.reduceEqDiff, reduceIte]
              exact u3
            · simp only [jm_st_e, Nat.reduceEqDiff, reduceIte]
              exact u4
          · intro m hm
            simp only [jm_st_e, Nat.reduceEqDiff, reduceIte]
            constructor
            · show _ = jm_up σ1.2.1 (k_en st) (σ1.2.1 (k_en st) - k_by sl fo ba st rest σ1) m
              by_cases z : m = k_en st
              · rw [z, jm_up_s, jm_up_s]
              · rw [jm_up_o z, jm_up_o z]
                exact g90 m hm
            · show _ = jm_up (jm_up σ1.2.2.1 s (σ1.2.2.1 s + k_by sl fo ba st rest σ1)) (k_en st) (jm_up σ1.2.2.1 s (σ1.2.2.1 s + k_by sl fo ba st rest σ1) (k_en st) - k_by sl fo ba st rest σ1) m
              by_cases z : m = k_en st
              · rw [z, jm_up_s, jm_up_s, jm_up_o r12]
              · rw [jm_up_o z, jm_up_o z]
                by_cases z2 : m = s
                · rw [z2, jm_up_s, jm_up_s]
                · rw [jm_up_o z2, jm_up_o z2]
                  exact g83 m hm
          · exact jm_fx_tr hf (jm_fx_tr (jm_fx_mo hf2 (by decide) (by decide)) (jm_fx_tr (jm_fx_mo hf3 (by decide) (by decide)) (jm_fx_tr (jm_fx_tr (jm_fx_st (by decide) (by decide)) (jm_fx_st (by decide) (by decide))) (jm_fx_st (by decide) (by decide)))))
          · rw [hpo]
            exact k_po_s hg hs hiv1 a hw
        refine ⟨_, rfl, fun c => ⟨eb.1, eb.2, fun d => ?_, fun d => ⟨eb.1, eb.2, ?_⟩⟩, fun c => ⟨eb.1, eb.2, fun d => ?_, fun d => ⟨eb.1, eb.2, ?_⟩⟩⟩
        · rw [if_pos c, if_pos d] at hby
          exact fin _ hby.symm
        · rw [if_pos c, if_neg d] at hby
          exact fin _ hby.symm
        · rw [if_neg c, if_pos d] at hby
          exact fin _ hby.symm
        · rw [if_neg c, if_neg d] at hby
          exact fin _ hby.symm
      · intro hw M2 hf2
        refine ⟨0, rfl, fun _ => stop M2 (k_po_n hw) ?_ ?_ (jm_fx_tr hf (jm_fx_mo hf2 (by decide) (by decide))), fun q => absurd rfl q⟩
        · obtain ⟨u1, u2, u3, u4⟩ := htr1
          exact ⟨fun e he => by rw [hf2.1 80 (by decide) (by decide)]; exact u1 e he, by rw [hf2.2 34 (by decide)]; exact u2, by rw [hf2.2 35 (by decide)]; exact u3, by rw [hf2.2 36 (by decide)]; exact u4⟩
        · exact fun m hm => by rw [hf2.1 90 (by decide) (by decide), hf2.1 83 (by decide) (by decide)]; exact hgt1 m hm
  refine sc_202 ⟨sb.1, sb.2, L (M 71 s).toNat (M 71 s) σ0 K0 M none none (by omega) (by omega) hiv hK0 (by omega) htr hgt (jm_fx_rfl _ _ _) rfl⟩
end Q5
