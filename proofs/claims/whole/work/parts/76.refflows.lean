/-! FLOWS: the reference -/
section Q7
variable {w h : Int} {sl fo ba : Int → Int}
theorem r_181 {M : jm_Mem} (hg : g_sd w h) (hX : r_X w h sl M) (s t : Int) (Q : jm_Q) : jm_cl 181 [jm_R 67, jm_I s, jm_I t] M Q ↔ Q (some (jm_I (jm_B (g_nd w h s ∧ g_nd w h t ∧ s ≠ t)))) M := by
  refine jm_cl_e (fun Q hq => sc_181 ?_) Q
  rw [r_122 hg hX]
  refine ⟨_, rfl, fun a => ⟨by omega, by omega, ?_⟩, fun a => ?_⟩
  · rw [jm_B0] at a
    rwa [jm_Bf (fun q => a q.1)] at hq
  · rw [jm_Bn] at a
    rw [r_122 hg hX]
    refine ⟨_, rfl, fun b => ⟨by omega, by omega, ?_⟩, fun b => ?_⟩
    · rw [jm_B0] at b
      rwa [jm_Bf (fun q => b q.2.1)] at hq
    · rw [jm_Bn] at b
      refine ⟨fun c => ⟨by omega, by omega, ?_⟩, fun c => ⟨by omega, by omega, ?_⟩⟩
      · rwa [jm_Bf (fun q => q.2.2 c)] at hq
      · rwa [jm_Bt ⟨a, b, c⟩] at hq
theorem p_170 {M : jm_Mem} {Q : jm_Q} (hg : g_ok w h sl) (hbo : g_bo fo ba) (hX : r_X w h sl M) (hfo : M 69 = fo) (hba : M 70 = ba) (hQ1 : g_circ w h sl fo ba → ∀ M', (∀ wt, x_tr w h sl (k_s0 w h sl fo ba wt) M') → jm_fx [74, 75, 80] [24, 34, 35, 36] M M' → Q (some (jm_I 1)) M') (hQ0 : ¬ g_circ w h sl fo ba → ∀ M', jm_fx [74, 75, 80] [24, 34, 35, 36] M M' → Q (some (jm_I 0)) M') : jm_cl 170 [jm_R 67] M Q := by
  refine sc_170 ?_
  refine p_159 hg hbo hX hfo hba ?_ ?_
  · intro hc M1 h74 hf1 _
    refine ⟨1, rfl, fun q => absurd q (by omega), fun _ => ?_⟩
    have L : ∀ e, e ≤ 108 → 0 ≤ e → ∀ M2 : jm_Mem, jm_fx [74, 75, 80] [24, 34, 35, 36] M M2 → (∀ v, g_F w h sl v → M2 74 v = g_pt w h sl fo ba v) → (∀ e', g_E w h sl e' → e' < e → M2 80 e' = g_pt w h sl fo ba (g_rt w h sl e') - g_pt w h sl fo ba (g_lf w h sl e')) → jm_run 170 (7, [some (jm_R 67), some (jm_I e)], [], M2) Q := by
      refine jm_dn ?_
      intro e he ih e0 M2 hf m74 h80
      have hX2 := r_X_fx hf (by decide) (by decide) (by decide) hX
      refine sg_170_7 ⟨fun a => ?_, fun a => ⟨by omega, by omega, ?_⟩⟩
      · rw [r_124 hg.1 hX2]
        refine ⟨_, rfl, fun b => ⟨e0, a, ⟨by omega, by omega⟩, ?_⟩, fun b => ?_⟩
        · rw [jm_B0] at b
          refine ih a (by omega) _ (jm_fx_tr hf (jm_fx_st (by decide) (by decide))) ?_ ?_
          · intro v hv
            simp only [jm_st_e, Nat.reduceEqDiff, reduceIte]
            exact m74 v hv
          · intro e' he' hlt
            have : e' ≠ e := fun q => b (q ▸ he')
            simp only [jm_st_e, reduceIte]
            rw [jm_up_o this]
            exact h80 e' he' (by omega)
        · rw [jm_Bn] at b
          obtain ⟨lF, l0, l1⟩ := g_lfF hg b
          obtain ⟨rF, r0, r1⟩ := g_rtF hg b
          have il := g_pt_bd hg hbo hc lF
          have ir := g_pt_bd hg hbo hc rF
          rw [r_129 hg.1 hX2 b]
          refine ⟨g_rt w h sl e, rfl, r0, by omega, ?_⟩
          rw [r_128 hg.1 hX2 b]
          refine ⟨g_lf w h sl e, rfl, l0, by omega, ?_⟩
          rw [m74 _ lF, m74 _ rF]
          refine ⟨⟨by omega, by omega⟩, e0, a, ⟨by omega, by omega⟩, ih a (by omega) _ (jm_fx_tr hf (jm_fx_st (by decide) (by decide))) ?_ ?_⟩
          · intro v hv
            simp only [jm_st_e, Nat.reduceEqDiff, reduceIte]
            exact m74 v hv
          · intro e' he' hlt
            simp only [jm_st_e, reduceIte]
            by_cases q : e' = e
            · rw [q, jm_up_s]
            · rw [jm_up_o q]
              exact h80 e' he' (by omega)
      · refine hQ1 hc _ ?_ (jm_fx_tr hf (jm_fx_tr (jm_fx_tr (jm_fx_sx (by decide)) (jm_fx_sx (by decide))) (jm_fx_sx (by decide))))
        intro wt
        refine ⟨?_, ?_, ?_, ?_⟩
        · intro e' he'
          have hb := g_Eb hg.1 he'
          simp only [jm_st_e, Nat.reduceEqDiff, reduceIte]
          exact h80 e' he' (by omega)
        · simp only [jm_st_e, reduceIte]
          rw [jm_up_o (by omega), jm_up_o (by omega), jm_up_s]
          rfl
        · simp only [jm_st_e, reduceIte]
          rw [jm_up_o (by omega), jm_up_s]
          rfl
        · simp only [jm_st_e, reduceIte]
          rw [jm_up_s]
          rfl
    exact L 0 (by omega) (by omega) M1 (jm_fx_mo hf1 (by decide) (by decide)) h74 (fun e' he' hlt => by have := g_Eb hg.1 he'; omega)
  · intro hc M1 hf1 _
    exact ⟨0, rfl, fun _ => ⟨by omega, by omega, hQ0 hc M1 (jm_fx_mo hf1 (by decide) (by decide))⟩, fun q => absurd rfl q⟩
theorem p_180 {M : jm_Mem} {Q : jm_Q} (hQ : ∀ M', (∀ n, 0 ≤ n → n < 36 → M' 83 n = 0) → jm_fr [83] M M' → Q none M') : jm_cl 180 [jm_R 67] M Q := by
  have L : ∀ n, n ≤ 36 → 0 ≤ n → ∀ M1 : jm_Mem, jm_fr [83] M M1 → (∀ m, 0 ≤ m → m < n → M1 83 m = 0) → jm_run 180 (2, [some (jm_R 67), some (jm_I n)], [], M1) Q := by
    refine jm_dn ?_
    intro n hn ih n0 M1 hf hz
    refine sg_180_2 ⟨fun a => ⟨n0, a, ⟨by omega, by omega⟩, ih a (by omega) _ (jm_fr_tr hf (jm_fr_st (by decide))) ?_⟩, fun a => hQ M1 (fun m m0 m1 => hz m m0 (by omega)) hf⟩
    intro m m0 m1
    simp only [jm_st_e, reduceIte]
    by_cases q : m = n
    · rw [q, jm_up_s]
    · rw [jm_up_o q]
      exact hz m m0 (by omega)
  exact sc_180 (L 0 (by omega) (by omega) M (jm_fr_rfl _ _) (fun m a b => by omega))
/-- what flows is told from now on -/
theorem p_179 {M : jm_Mem} {s t : Int} {Q : jm_Q} (hQ : ∀ M', (∀ e, 0 ≤ e → e < 108 → M' 81 e = M 80 e) → (∀ n, 0 ≤ n → n < 36 → M' 84 n = M 83 n) → M' 67 33 = 1 → M' 82 0 = M 67 34 → M' 82 1 = M 67 35 → M' 82 2 = (if M 67 34 = 0 then 0 else M 67 36) → M' 82 3 = s → M' 82 4 = t → jm_fx [81, 82, 84] [33] M M' → Q none M') : jm_cl 179 [jm_R 67, jm_I s, jm_I t] M Q := by
  have L2 : ∀ n, n ≤ 36 → 0 ≤ n → ∀ M1 : jm_Mem, (∀ e, 0 ≤ e → e < 108 → M1 81 e = M 80 e) → (∀ m, 0 ≤ m → m < n → M1 84 m = M 83 m) → M1 67 33 = 1 → M1 82 0 = M 67 34 → M1 82 1 = M 67 35 → M1 82 2 = (if M 67 34 = 0 then 0 else M 67 36) → M1 82 3 = s → M1 82 4 = t → jm_fx [81, 82, 84] [33] M M1 → jm_run 179 (53, [some (jm_R 67), some (jm_I s), some (jm_I t), some (jm_I n)], [], M1) Q := by
    refine jm_dn ?_
    intro n hn ih n0 M1 h81 h84 h1 h2 h3 h4 h5 h6 hf
    refine sg_179_53 ⟨fun a => ⟨n0, a, n0, a, ⟨by omega, by omega⟩, ih a (by omega) _ ?_ ?_ ?_ ?_ ?_ ?_ ?_ ?_ (jm_fx_tr hf (jm_fx_st (by decide) (by decide)))⟩, fun a => hQ M1 h81 (fun m m0 m1 => h84 m m0 (by omega)) h1 h2 h3 h4 h5 h6 hf⟩
    · intro e e0 e1
      simp only [jm_st_e, Nat.reduceEqDiff, reduceIte]
      exact h81 e e0 e1
    · intro m m0 m1
      simp only [jm_st_e, reduceIte]
      by_cases q : m = n
      · rw [q, jm_up_s, hf.1 83 (by decide) (by decide)]
      · rw [jm_up_o q]
        exact h84 m m0 (by omega)
    · simp only [jm_st_e, Nat.reduceEqDiff, reduceIte]; exact h1
    · simp only [jm_st_e, Nat.reduceEqDiff, reduceIte]; exact h2
    · simp only [jm_st_e, Nat.reduceEqDiff, reduceIte]; exact h3
    · simp only [jm_st_e, Nat.reduceEqDiff, reduceIte]; exact h4
    · simp only [jm_st_e, Nat.reduceEqDiff, reduceIte]; exact h5
    · simp only [jm_st_e, Nat.reduceEqDiff, reduceIte]; exact h6
  have L1 : ∀ e, e ≤ 108 → 0 ≤ e → ∀ M1 : jm_Mem, (∀ e', 0 ≤ e' → e' < e → M1 81 e' = M 80 e') → jm_fx [81, 82, 84] [33] M M1 → (∀ i, M1 67 i = M 67 i) → jm_run 179 (2, [some (jm_R 67), some (jm_I s), some (jm_I t), some (jm_I e)], [], M1) Q := by
    refine jm_dn ?_
    intro e he ih e0 M1 h81 hf h67
    refine sg_179_2 ⟨fun a => ⟨e0, a, e0, a, ⟨by omega, by omega⟩, ih a (by omega) _ ?_ (jm_fx_tr hf (jm_fx_st (by decide) (by decide))) ?_⟩, fun a => ⟨by omega, by omega, by omega, by omega, by omega, by omega, ?_⟩⟩
    · intro e' e0' e1'
      simp only [jm_st_e, reduceIte]
      by_cases q : e' = e
      · rw [q, jm_up_s, hf.1 80 (by decide) (by decide)]
      · rw [jm_up_o q]
        exact h81 e' e0' (by omega)
    · intro i
      simp only [jm_st_e, Nat.reduceEqDiff, reduceIte]
      exact h67 i
    · simp only [jm_st_e, Nat.reduceEqDiff, reduceIte]
      rw [jm_up_o (show (34 : Int) ≠ 33 by omega), jm_up_o (show (35 : Int) ≠ 33 by omega), jm_up_o (show (36 : Int) ≠ 33 by omega), h67 34, h67 35, h67 36]
      have fin : ∀ v, v = (if M 67 34 = 0 then 0 else M 67 36) → jm_run 179 (53, [some (jm_R 67), some (jm_I s), some (jm_I t), some (jm_I 0)], [], jm_st (jm_st (jm_st (jm_st (jm_st (jm_st M1 67 33 1) 82 0 (M 67 34)) 82 1 (M 67 35)) 82 2 v) 82 3 s) 82 4 t) Q := by
        intro v hv
        refine L2 0 (by omega) (by omega) _ ?_ (fun m a b => by omega) ?_ ?_ ?_ ?_ ?_ ?_ (jm_fx_tr hf (jm_fx_tr (jm_fx_tr (jm_fx_tr (jm_fx_tr (jm_fx_tr (jm_fx_sx (by decide)) (jm_fx_st (by decide) (by decide))) (jm_fx_st (by decide) (by decide))) (jm_fx_st (by decide) (by decide))) (jm_fx_st (by decide) (by decide))) (jm_fx_st (by decide) (by decide))))
        · intro e' e0' e1'
          simp only [jm_st_e, Nat.reduceEqDiff, reduceIte]
          exact h81 e' e0' (by omega)
        · simp only [jm_st_e, Nat.reduceEqDiff, reduceIte]
          rw [jm_up_s]
        · simp only [jm_st_e, Nat.reduceEqDiff, reduceIte]
          rw [jm_up_o (by omega), jm_up_o (by omega), jm_up_o (by omega), jm_up_o (by omega), jm_up_s]
        · simp only [jm_st_e, Nat.reduceEqDiff, reduceIte]
          rw [jm_up_o (by omega), jm_up_o (by omega), jm_up_o (by omega), jm_up_s]
        · simp only [jm_st_e, Nat.reduceEqDiff, reduceIte]
          rw [jm_up_o (by omega), jm_up_o (by omega), jm_up_s, hv]
        · simp only [jm_st_e, Nat.reduceEqDiff, reduceIte]
          rw [jm_up_o (by omega), jm_up_s]
        · simp only [jm_st_e, Nat.reduceEqDiff, reduceIte]
          rw [jm_up_s]
      exact ⟨fun q => ⟨by omega, by omega, by omega, by omega, by omega, by omega, fin _ (by rw [if_pos q])⟩, fun q => ⟨by omega, by omega, by omega, by omega, by omega, by omega, fin _ (by rw [if_neg q])⟩⟩
  exact sc_179 (L1 0 (by omega) (by omega) M (fun e a b => by omega) (jm_fx_rfl _ _ _) (fun _ => rfl))
theorem p_182 {M : jm_Mem} {s t : Int} {Q : jm_Q} (hg : g_ok w h sl) (hbo : g_bo fo ba) (hX : r_X w h sl M) (hfo : M 69 = fo) (hba : M 70 = ba) (hs : g_nd w h s) (ht : g_nd w h t) (hst : s ≠ t) (hQ1 : g_circ w h sl fo ba → ∀ M', x_tr w h sl (k_po w h sl fo ba s 1000000 (k_s0 w h sl fo ba (jm_up (fun _ => 0) t 1000000))).2 M' → jm_fx [74, 75, 80, 85, 86, 87, 88, 89] [24, 34, 35, 36, 45] M M' → Q (some (jm_I (g_val w h sl fo ba s t))) M') (hQ0 : ¬ g_circ w h sl fo ba → ∀ M', jm_fx [74, 75, 80, 85, 86, 87, 88, 89] [24, 34, 35, 36, 45] M M' → Q (some (jm_I (-2))) M') : jm_cl 182 [jm_R 67, jm_I s, jm_I t] M Q := by
  refine sc_182 ?_
  refine p_170 hg hbo hX hfo hba ?_ ?_
  · intro hc M1 htr hf1
    refine ⟨1, rfl, fun q => absurd q (by omega), fun _ => ?_⟩
    have hiv := k_s0_iv (fo := fo) (ba := ba) hg hc (k_t_wt (t := t))
    have hph := k_ph_b (s := s) hg hbo hiv.1
    refine p_178 (rest0 := 1000000) (K0 := 0) (σ0 := k_s0 w h sl fo ba (jm_up (fun _ => 0) t 1000000)) hg hbo hs ht hst (r_X_fx hf1 (by decide) (by decide) (by decide) hX) (by rw [hf1.1 69 (by decide) (by decide)]; exact hfo) (by rw [hf1.1 70 (by decide) (by decide)]; exact hba) (by omega) (by omega) (by omega) (by omega) hiv (by omega) (by omega) (htr _) ⟨?_, Or.inr ⟨by omega, rfl, ?_, by omega⟩⟩ ?_
    · intro n _ hn
      show jm_up (fun _ => 0) t 1000000 n = 0
      rw [jm_up_o hn]
    · show jm_up (fun _ => 0) t 1000000 t = 1000000
      rw [jm_up_s]
    · intro M2 htr2 hf2
      exact ⟨_, rfl, hQ1 hc M2 htr2 (jm_fx_tr (jm_fx_mo hf1 (by decide) (by decide)) (jm_fx_mo hf2 (by decide) (by decide)))⟩
  · intro hc M1 hf1
    exact ⟨0, rfl, fun _ => hQ0 hc M1 (jm_fx_mo hf1 (by decide) (by decide)), fun q => absurd rfl q⟩
/-- gathered: the reference's loop -/
theorem p_200_29 {M : jm_Mem} {face t each : Int} {Q : jm_Q} (hg : g_ok w h sl) (hc : g_circ w h sl fo ba) (hbo : g_bo fo ba) (hX : r_X w h sl M) (hfo : M 69 = fo) (hba : M 70 = ba) (ht : g_nd w h t) (e1 : 1 ≤ each) (e2 : each ≤ 999) (htr : ∀ wt, x_tr w h sl (k_s0 w h sl fo ba wt) M) (h83 : ∀ n, 0 ≤ n → n < 36 → M 83 n = 0) (hQ : ∀ M', x_tr w h sl (k_ga w h sl fo ba each (g_gn w h sl face t 0) 0 (k_s0 w h sl fo ba (jm_up (fun _ => 0) t 1000000))).2 M' → (∀ n, g_nd w h n → M' 83 n = (k_ga w h sl fo ba each (g_gn w h sl face t 0) 0 (k_s0 w h sl fo ba (jm_up (fun _ => 0) t 1000000))).2.2.2.1 n) → jm_fx [80, 83, 85, 86, 87, 88, 89] [34, 35, 36, 45] M M' → jm_cl 179 [jm_R 67, jm_I (-1), jm_I t] M' (fun r M4 => r = none ∧ Q (some (jm_I (k_ga w h sl fo ba each (g_gn w h sl face t 0) 0 (k_s0 w h sl fo ba (jm_up (fun _ => 0) t 1000000))).1)) M4)) : jm_run 200 (29, [some (jm_R 67), some (jm_I face), some (jm_I t), some (jm_I each), some (jm_I 0), some (jm_I 0)], [], M) Q := by
  have hm := g_mul hg.1
  have tb := g_nb hg.1 ht
  have L : ∀ n, n ≤ w * h → 0 ≤ n → ∀ (sum K : Int) (σ : k_S) (M1 : jm_Mem), 0 ≤ sum → sum ≤ 999 * n → 0 ≤ K → K ≤ 999 * n → k_iv w h sl fo ba K σ → x_tr w h sl σ M1 → (∀ m, g_nd w h m → m ≠ t → σ.2.1 m = 0) → σ.2.1 t = 1000000 - sum → (∀ m, g_nd w h m → m ≠ t → M1 83 m = σ.2.2.1 m) → σ.2.2.1 t = -sum → (∀ m, g_nd w h m → m ≠ t → n ≤ m → σ.2.2.1 m = 0) → jm_fx [80, 83, 85, 86, 87, 88, 89] [34, 35, 36, 45] M M1 → k_ga w h sl fo ba each (g_gn w h sl face t 0) 0 (k_s0 w h sl fo ba (jm_up (fun _ => 0) t 1000000)) = k_ga w h sl fo ba each (g_gn w h sl face t n) sum σ → jm_run 200 (29, [some (jm_R 67), some (jm_I face), some (jm_I t), some (jm_I each), some (jm_I sum), some (jm_I n)], [], M1) Q := by
    refine jm_dn ?_
    intro n hn ih n0 sum K σ M1 s0 s1 k0 k1 hiv htr1 hz hzt hgm hgt hfar hf hga
    have hX1 := r_X_fx hf (by decide) (by decide) (by decide) hX
    refine sg_200_29 ?_
    rw [r_121 hg.1 hX1]
    refine ⟨_, rfl, fun a => ⟨fun b => ⟨⟨by omega, by omega⟩, ?_⟩, fun b => ?_⟩, fun a => ⟨⟨by omega, by omega⟩, tb.1, tb.2, ?_⟩⟩
    · refine ih a (by omega) sum K σ M1 s0 (by omega) k0 (by omega) hiv htr1 hz hzt hgm hgt (fun m a b c => hfar m a b (by omega)) hf ?_
      rw [hga]
      unfold g_gn
      rw [g_ls_n a (fun q => q.1 b)]
    · rw [r_199 hg.1 hX1]
      refine ⟨_, rfl, fun c => ⟨⟨by omega, by omega⟩, ?_⟩, fun c => ?_⟩
      · rw [jm_B0] at c
        refine ih a (by omega) sum K σ M1 s0 (by omega) k0 (by omega) hiv htr1 hz hzt hgm hgt (fun m a b c => hfar m a b (by omega)) hf ?_
        rw [hga]
        unfold g_gn
        rw [g_ls_n a (fun q => c q.2)]
      · rw [jm_Bn] at c
        have hnd : g_nd w h n := ⟨n0, a⟩
        obtain ⟨p1, p2, p3⟩ := k_po_iv (fo := fo) (ba := ba) hg hnd each.toNat each K σ (by omega) hiv
        obtain ⟨v1, v2, v3⟩ := k_po_gv (fo := fo) (ba := ba) hg hnd b each.toNat each K σ (by omega) hiv hz
        refine p_178 (rest0 := each) (K0 := K) (σ0 := σ) hg hbo hnd ht b hX1 (by rw [hf.1 69 (by decide) (by decide)]; exact hfo) (by rw [hf.1 70 (by decide) (by decide)]; exact hba) (by omega) (by omega) (by omega) (by omega) hiv k0 (by omega) htr1 ⟨hz, Or.inl ⟨by omega, by omega⟩⟩ ?_
        intro M2 htr2 hf2
        have g0 := hfar n hnd b (by omega)
        refine ⟨_, rfl, n0, by omega, n0, by omega, ?_⟩
        simp only [jm_st_e, reduceIte]
        rw [jm_up_s]
        refine ⟨⟨by omega, by omega⟩, ⟨by omega, by omega⟩, ih a (by omega) _ (K + (each - (k_po w h sl fo ba n each σ).1)) (k_po w h sl fo ba n each σ).2 _ (by omega) (by omega) (by omega) (by omega) p1 ?_ v1 ?_ ?_ ?_ ?_ (jm_fx_tr hf (jm_fx_tr (jm_fx_mo hf2 (by decide) (by decide)) (jm_fx_st (by decide) (by decide)))) ?_⟩
        · obtain ⟨u1, u2, u3, u4⟩ := htr2
          refine ⟨fun e he => ?_, ?_, ?_, ?_⟩
          · simp only [jm_st_e, Nat.reduceEqDiff, reduceIte]; exact u1 e he
          · simp only [jm_st_e, Nat.reduceEqDiff, reduceIte]; exact u2
          · simp only [jm_st_e, Nat.reduceEqDiff, reduceIte]; exact u3
          · simp only [jm_st_e, Nat.reduceEqDiff, reduceIte]; exact u4
        · rw [v2]
          omega
        · intro m hm1 hm2
          simp only [jm_st_e, reduceIte]
          rw [v3 m, if_neg hm2]
          by_cases q : m = n
          · rw [q, jm_up_s, if_pos rfl]
            omega
          · rw [jm_up_o q, if_neg q, hf2.1 83 (by decide) (by decide)]
            exact hgm m hm1 hm2
        · rw [v3 t, if_pos rfl]
          omega
        · intro m hm1 hm2 hm3
          rw [v3 m, if_neg hm2, if_neg (by omega)]
          exact hfar m hm1 hm2 (by omega)
        · rw [hga]
          unfold g_gn
          rw [g_ls_y a ⟨b, c⟩]
          rfl
    · unfold g_gn at hga
      rw [g_ls_z (P := fun n => n ≠ t ∧ g_aF w h sl n face = true) (show w * h ≤ n by omega)] at hga
      unfold g_gn at hQ
      rw [hga] at hQ
      refine hQ _ ?_ ?_ (jm_fx_tr hf (jm_fx_st (by decide) (by decide)))
      · obtain ⟨u1, u2, u3, u4⟩ := htr1
        refine ⟨fun e he => ?_, ?_, ?_, ?_⟩
        · simp only [jm_st_e, Nat.reduceEqDiff, reduceIte]; exact u1 e he
        · simp only [jm_st_e, Nat.reduceEqDiff, reduceIte]; exact u2
        · simp only [jm_st_e, Nat.reduceEqDiff, reduceIte]; exact u3
        · simp only [jm_st_e, Nat.reduceEqDiff, reduceIte]; exact u4
      · intro m hm1
        simp only [jm_st_e, reduceIte]
        show _ = σ.2.2.1 m
        by_cases q : m = t
        · rw [q, jm_up_s, hgt]
        · rw [jm_up_o q]
          exact hgm m hm1 q
  refine L 0 (by omega) (by omega) 0 0 (k_s0 w h sl fo ba (jm_up (fun _ => 0) t 1000000)) M (by omega) (by omega) (by omega) (by omega) (k_s0_iv hg hc k_t_wt) (htr _) (fun m _ hm => (by show jm_up (fun _ => 0) t 1000000 m = 0; rw [jm_up_o hm])) ?_ (fun m hm1 _ => ?_) rfl (fun _ _ _ _ => rfl) (jm_fx_rfl _ _ _) rfl
  · show jm_up (fun _ => 0) t 1000000 t = _
    rw [jm_up_s]
    omega
  · have := g_nb hg.1 hm1
    exact h83 m this.1 this.2
/-- met: the reference's loops -/
theorem p_203_12 {M : jm_Mem} {su : Int → Int} {Q : jm_Q} (hg : g_ok w h sl) (hc : g_circ w h sl fo ba) (hbo : g_bo fo ba) (hX : r_X w h sl M) (hfo : M 69 = fo) (hba : M 70 = ba) (hsu : M 71 = su) (hsb : ∀ n, -99 ≤ su n ∧ su n ≤ 99) (htr : ∀ wt, x_tr w h sl (k_s0 w h sl fo ba wt) M) (h83 : ∀ n, 0 ≤ n → n < 36 → M 83 n = 0) (hQ : ∀ M', x_tr w h sl (k_me w h sl fo ba su (g_nl w h 0) 0 (k_s0 w h sl fo ba (k_mw su))).2 M' → x_gt w h (k_me w h sl fo ba su (g_nl w h 0) 0 (k_s0 w h sl fo ba (k_mw su))).2 M' → jm_fx [80, 83, 85, 86, 87, 88, 89, 90] [34, 35, 36, 45] M M' → jm_cl 179 [jm_R 67, jm_I (-1), jm_I (-1)] M' (fun r M3 => r = none ∧ Q (some (jm_I (k_me w h sl fo ba su (g_nl w h 0) 0 (k_s0 w h sl fo ba (k_mw su))).1)) M3)) : jm_run 203 (12, [some (jm_R 67), some (jm_I 0), none], [], M) Q := by
  have hm := g_mul hg.1
  have L : ∀ n, n ≤ w * h → 0 ≤ n → ∀ (sum K : Int) (σ : k_S) (M1 : jm_Mem), 0 ≤ sum → sum ≤ 99 * n → 0 ≤ K → K ≤ 99 * n → k_iv w h sl fo ba K σ → x_tr w h sl σ M1 → x_gt w h σ M1 → jm_fx [80, 83, 85, 86, 87, 88, 89, 90] [34, 35, 36, 45] M M1 → k_me w h sl fo ba su (g_nl w h 0) 0 (k_s0 w h sl fo ba (k_mw su)) = k_me w h sl fo ba su (g_nl w h n) sum σ → jm_run 203 (41, [some (jm_R 67), some (jm_I sum), some (jm_I n)], [], M1) Q := by
    refine jm_dn ?_
    intro n hn ih n0 sum K σ M1 s0 s1 k0 k1 hiv htr1 hgt1 hf hme
    have hX1 := r_X_fx hf (by decide) (by decide) (by decide) hX
    have m71 : M1 71 = su := by rw [hf.1 71 (by decide) (by decide)]; exact hsu
    have sb := hsb n
    refine sg_203_41 ?_
    rw [r_121 hg.1 hX1, m71]
    refine ⟨_, rfl, fun a => ⟨n0, by omega, fun b => ?_, fun b => ⟨⟨by omega, by omega⟩, ⟨by omega, by omega⟩, ?_⟩⟩, fun a => ?_⟩
    · have hnd : g_nd w h n := ⟨n0, a⟩
      have hli : k_li su n = su n := if_pos b
      obtain ⟨p1, p2, p3⟩ := k_po_iv (fo := fo) (ba := ba) hg hnd (su n).toNat (su n) K σ (by omega) hiv
      refine p_202 (K0 := K) (σ0 := σ) hg hbo hnd hX1 (by rw [hf.1 69 (by decide) (by decide)]; exact hfo) (by rw [hf.1 70 (by decide) (by decide)]; exact hba) (by rw [m71]; omega) (by rw [m71]; omega) hiv k0 (by rw [m71]; omega) htr1 hgt1 ?_
      rw [m71]
      intro M2 htr2 hgt2 hf2
      refine ⟨_, rfl, ⟨by omega, by omega⟩, ⟨by omega, by omega⟩, ih a (by omega) _ (K + (su n - (k_po w h sl fo ba n (su n) σ).1)) _ M2 (by omega) (by omega) (by omega) (by omega) p1 htr2 hgt2 (jm_fx_tr hf hf2) ?_⟩
      rw [hme]
      unfold g_nl
      rw [g_ls_y a trivial]
      show k_me w h sl fo ba su _ (sum + (k_li su n - (k_po w h sl fo ba n (k_li su n) σ).1)) (k_po w h sl fo ba n (k_li su n) σ).2 = _
      rw [hli]
    · have hli : k_li su n = 0 := if_neg b
      rw [Int.add_zero]
      refine ih a (by omega) sum K σ M1 s0 (by omega) k0 (by omega) hiv htr1 hgt1 hf ?_
      rw [hme]
      unfold g_nl
      rw [g_ls_y a trivial]
      show k_me w h sl fo ba su _ (sum + (k_li su n - (k_po w h sl fo ba n (k_li su n) σ).1)) (k_po w h sl fo ba n (k_li su n) σ).2 = _
      rw [hli, k_po_0 (by omega)]
      show k_me w h sl fo ba su _ (sum + (0 - 0)) σ = _
      rw [Int.sub_self, Int.add_zero]
    · unfold g_nl at hme
      rw [g_ls_z (P := fun _ => True) (show w * h ≤ n by omega)] at hme
      unfold g_nl at hQ
      rw [hme] at hQ
      exact hQ M1 htr1 hgt1 hf
  have LW : ∀ n, n ≤ 36 → 0 ≤ n → ∀ (M1 : jm_Mem), (∀ wt, x_tr w h sl (k_s0 w h sl fo ba wt) M1) → (∀ m, g_nd w h m → m < n → M1 90 m = k_mw su m) → (∀ m, 0 ≤ m → m < 36 → M1 83 m = 0) → jm_fx [80, 83, 85, 86, 87, 88, 89, 90] [34, 35, 36, 45] M M1 → jm_run 203 (12, [some (jm_R 67), some (jm_I n), none], [], M1) Q := by
    refine jm_dn ?_
    intro n hn ih n0 M1 htr1 h90 hz hf
    have hX1 := r_X_fx hf (by decide) (by decide) (by decide) hX
    have m71 : M1 71 = su := by rw [hf.1 71 (by decide) (by decide)]; exact hsu
    have sb := hsb n
    have next : n < 36 → ∀ v, (g_nd w h n → v = k_mw su n) → jm_run 203 (12, [some (jm_R 67), some (jm_I (n + 1)), none], [], jm_st M1 90 n v) Q := by
      intro a v hv
      refine ih a (by omega) _ ?_ ?_ ?_ (jm_fx_tr hf (jm_fx_st (by decide) (by decide)))
      · intro wt
        obtain ⟨u1, u2, u3, u4⟩ := htr1 wt
        refine ⟨fun e he => ?_, ?_, ?_, ?_⟩
        · simp only [jm_st_e, Nat.reduceEqDiff, reduceIte]; exact u1 e he
        · simp only [jm_st_e, Nat.reduceEqDiff, reduceIte]; exact u2
        · simp only [jm_st_e, Nat.reduceEqDiff, reduceIte]; exact u3
        · simp only [jm_st_e, Nat.reduceEqDiff, reduceIte]; exact u4
      · intro m hm1 hm2
        simp only [jm_st_e, reduceIte]
        by_cases q : m = n
        · rw [q, jm_up_s]
          exact hv (q ▸ hm1)
        · rw [jm_up_o q]
          exact h90 m hm1 (by omega)
      · intro m m0 m1
        simp only [jm_st_e, Nat.reduceEqDiff, reduceIte]
        exact hz m m0 m1
    refine sg_203_12 ⟨fun a => ?_, fun a => ?_⟩
    · rw [r_122 hg.1 hX1]
      refine ⟨_, rfl, fun b => ⟨n0, a, ⟨by omega, by omega⟩, ?_⟩, fun b => ⟨n0, a, ?_⟩⟩
      · rw [jm_B0] at b
        exact next a 0 (fun q => absurd q b)
      · rw [m71]
        refine ⟨fun c => ⟨n0, a, ⟨by omega, by omega⟩, n0, a, ⟨by omega, by omega⟩, next a _ (fun _ => ?_)⟩, fun c => ⟨n0, a, ⟨by omega, by omega⟩, next a _ (fun _ => ?_)⟩⟩
        · unfold k_mw
          rw [if_pos (by omega)]
        · unfold k_mw
          rw [if_neg (by omega)]
    · refine L 0 (by omega) (by omega) 0 0 (k_s0 w h sl fo ba (k_mw su)) M1 (by omega) (by omega) (by omega) (by omega) (k_s0_iv hg hc (k_mw_b hsb)) (htr1 _) ?_ hf rfl
      intro m hm1
      have := g_nb hg.1 hm1
      exact ⟨h90 m hm1 (by omega), hz m this.1 this.2⟩
  exact LW 0 (by omega) (by omega) M htr (fun m hm1 hm2 => by have := hm1.1; omega) h83 (jm_fx_rfl _ _ _)
end Q7
