/-! THE CLASS: one round more, up to the first face that gets less; how many faces there are; solve -/
theorem p_1f {w h : Int} {sl fo ba : Int → Int} {s : b_S} {M : jm_Mem} {t : Int} {Q : jm_Q} (hg : g_ok w h sl) (hT : g_tb w h sl M) (hfo : M 4 = fo) (hba : M 5 = ba) (hbo : g_bo fo ba) (hb : b_bd 100 t s) (t0 : 0 ≤ t) (t1 : t ≤ 20000) (hR : d_rp s M) (hQ0 : b_ff (g_fw w h sl fo ba) s = none → Q (some (jm_I 0)) M) (hQ1 : ∀ s' g M', b_ff (g_fw w h sl fo ba) s = some (s', g) → d_rp s' M' → jm_fr [33, 34, 35] M M' → M' 33 5 = g → Q (some (jm_I 1)) M') : jm_cl 1 [jm_R 33, jm_R 1, jm_I 1] M Q := by
  have L : ∀ (rest pre : List Int), pre ++ rest = g_el w h sl → ∀ (o5 o6 o7 : Option jm_V), b_ff (g_fw w h sl fo ba) s = b_ff (b_ar (g_lf w h sl) (g_rt w h sl) fo ba rest) s → jm_run 1 (4, [some (jm_R 33), some (jm_R 1), some (jm_I 1), some (jm_I 0), some (jm_I (pre.length : Int)), o5, o6, o7], [], M) Q := by
    intro rest
    induction rest with
    | nil =>
      intro pre hp o5 o6 o7 h1
      exact sg_1_4 ⟨fun a => absurd a (tb_nil hT hp), fun a => ⟨by omega, by omega, hQ0 h1⟩⟩
    | cons e rest ih =>
      intro pre hp o5 o6 o7 h1
      obtain ⟨t1', t2, t3, t4, t5, t6, t7⟩ := tb_cons hg.1 hT hp
      obtain ⟨b1, b2, -, -⟩ := g_Eb hg.1 t3
      obtain ⟨d1, d2, d3, d4⟩ := t_E hg.1 hT t3
      obtain ⟨-, l0, l1⟩ := g_lfF hg t3
      obtain ⟨-, r0, r1⟩ := g_rtF hg t3
      obtain ⟨o1, o2, o3, o4, o5'⟩ := hbo e
      have hx1 : b_ff (b_ar (g_lf w h sl) (g_rt w h sl) fo ba (e :: rest)) s = (if b_ok s.1 (g_lf w h sl e) (g_rt w h sl e) (fo e) = true then some (b_t s (g_lf w h sl e, g_rt w h sl e, fo e, e), g_rt w h sl e) else if b_ok s.1 (g_rt w h sl e) (g_lf w h sl e) (ba e) = true then some (b_t s (g_rt w h sl e, g_lf w h sl e, ba e, e), g_lf w h sl e) else b_ff (b_ar (g_lf w h sl) (g_rt w h sl) fo ba rest) s) := rfl
      rw [hx1] at h1
      have ih := fun o5 o6 o7 => ih (pre ++ [e]) t6 o5 o6 o7
      rw [t7] at ih
      have stop : ∀ s' g M', b_ff (g_fw w h sl fo ba) s = some (s', g) → d_rp s' M' → jm_fr [33, 34, 35] M M' → M' 33 5 = g → ∀ o5 o6 o7, jm_run 1 (4, [some (jm_R 33), some (jm_R 1), some (jm_I 1), some (jm_I 1), some (jm_I ((pre.length : Int) + 1)), o5, o6, o7], [], M') Q := by
        intro s' g M' q1 q2 q3 q4 o5 o6 o7
        have hT1 := g_tb_fr q3 (by decide) hT
        exact sg_1_4 ⟨fun _ => ⟨fun q => absurd q (by omega), fun _ => ⟨fun q => absurd q (by omega), fun _ => ⟨by omega, by omega, hQ1 s' g M' q1 q2 q3 q4⟩⟩⟩, fun _ => ⟨by omega, by omega, hQ1 s' g M' q1 q2 q3 q4⟩⟩
      refine sg_1_4 ⟨fun _ => ⟨fun q => absurd q (by omega), fun _ => ⟨fun _ => ⟨t4, t5, ?_⟩, fun q => absurd rfl q⟩⟩, fun q => absurd t1' q⟩
      rw [t2, d3, d4, hfo]
      refine ⟨b1, b2, b1, b2, b1, b2, ?_⟩
      refine p_2 (t := t) l0 (by omega) r0 (by omega) ⟨o1, o2⟩ hb (by omega) (by omega) hR ?_ ?_
      · intro hk M2 hr2 hf2 h5
        rw [if_pos hk] at h1
        exact ⟨1, rfl, fun q => absurd q (by omega), fun _ => ⟨by omega, by omega, ⟨by omega, by omega⟩, stop _ _ _ h1 hr2 hf2 h5 _ _ _⟩⟩
      · intro hk
        rw [if_neg (by rw [hk]; simp)] at h1
        refine ⟨0, rfl, fun _ => ⟨b1, b2, ?_⟩, fun q => absurd rfl q⟩
        rw [hba]
        refine p_2 (t := t) r0 (by omega) l0 (by omega) ⟨o3, o4⟩ hb (by omega) (by omega) hR ?_ ?_
        · intro hk2 M2 hr2 hf2 h5
          rw [if_pos hk2] at h1
          exact ⟨1, rfl, fun q => absurd q (by omega), fun _ => ⟨by omega, by omega, ⟨by omega, by omega⟩, stop _ _ _ h1 hr2 hf2 h5 _ _ _⟩⟩
        · intro hk2
          rw [if_neg (by rw [hk2]; simp)] at h1
          exact ⟨0, rfl, fun _ => ⟨by omega, by omega, ⟨by omega, by omega⟩, ih _ _ _ h1⟩, fun q => absurd rfl q⟩
  exact sc_1 (L _ [] rfl none none none rfl)
/-! How many faces there are -/
theorem g_cells {w h : Int} (hg : g_sd w h) : ((g_ls (fun n => g_ce w h n) 36 0).length : Int) = (w - 1) * (h - 1) := by
  obtain ⟨hcw, hch⟩ := g_cases hg
  rcases hcw with rfl | rfl | rfl | rfl | rfl <;> rcases hch with rfl | rfl | rfl | rfl | rfl <;> decide +kernel
theorem g_fcount {w h : Int} {sl : Int → Int} (hg : g_ok w h sl) : ∀ n, n ≤ 36 → 0 ≤ n → (g_ls (fun f => g_F w h sl f) 73 (2 * n)).length = (g_ls (fun n => g_ce w h n) 36 n).length + ((g_ls (fun e => g_E w h sl e) 108 (3 * n)).filter (fun x => decide (x % 3 = 2))).length + 1 := by
  refine jm_dn ?_
  intro n hn ih n0
  by_cases hlt : n < 36
  · have ih := ih hlt (by omega)
    have e0 : (g_ls (fun e => g_E w h sl e) 108 (3 * n)).filter (fun x => decide (x % 3 = 2)) = (g_ls (fun e => g_E w h sl e) 108 (3 * n + 1)).filter (fun x => decide (x % 3 = 2)) := by
      rw [g_ls_s (by omega)]
      split
      · rw [List.filter_cons_of_neg]
        have : ¬ (3 * n % 3 = 2) := by omega
        simpa using this
      · rfl
    have e1 : (g_ls (fun e => g_E w h sl e) 108 (3 * n + 1)).filter (fun x => decide (x % 3 = 2)) = (g_ls (fun e => g_E w h sl e) 108 (3 * n + 2)).filter (fun x => decide (x % 3 = 2)) := by
      rw [g_ls_s (by omega), show 3 * n + 1 + 1 = 3 * n + 2 by omega]
      split
      · rw [List.filter_cons_of_neg]
        have : ¬ ((3 * n + 1) % 3 = 2) := by omega
        simpa using this
      · rfl
    have e2 : ((g_ls (fun e => g_E w h sl e) 108 (3 * n + 2)).filter (fun x => decide (x % 3 = 2))).length = ((g_ls (fun e => g_E w h sl e) 108 (3 * (n + 1))).filter (fun x => decide (x % 3 = 2))).length + (if g_ce w h n ∧ 0 < sl n then 1 else 0) := by
      rw [g_ls_s (by omega), show 3 * n + 2 + 1 = 3 * (n + 1) by omega]
      by_cases hE : g_E w h sl (3 * n + 2)
      · rw [if_pos hE, if_pos (g_E2.1 hE), List.filter_cons_of_pos (by simp), List.length_cons]
      · rw [if_neg hE, if_neg (fun q => hE (g_E2.2 q))]
        omega
    have e3 : (g_ls (fun n => g_ce w h n) 36 n).length = (g_ls (fun n => g_ce w h n) 36 (n + 1)).length + (if g_ce w h n then 1 else 0) := by
      rw [g_ls_s hlt]
      by_cases hc : g_ce w h n
      · rw [if_pos hc, if_pos hc, List.length_cons]
      · rw [if_neg hc, if_neg hc]
        omega
    have e4 : (g_ls (fun f => g_F w h sl f) 73 (2 * n)).length = (g_ls (fun f => g_F w h sl f) 73 (2 * n + 1)).length + (if g_ce w h n then 1 else 0) := by
      rw [g_ls_s (by omega)]
      by_cases hc : g_ce w h n
      · rw [if_pos ((g_F2 hlt).2 hc), if_pos hc, List.length_cons]
      · rw [if_neg (fun q => hc ((g_F2 hlt).1 q)), if_neg hc]
        omega
    have hF1 : g_F w h sl (2 * n + 1) ↔ g_ce w h n ∧ 0 < sl n := by
      have : (2 * n + 1) / 2 = n := by omega
      unfold g_F
      rw [this]
      constructor
      · rintro (q | ⟨q1, q2, q3⟩)
        · omega
        · exact ⟨q2, by omega⟩
      · rintro ⟨q1, q2⟩
        exact Or.inr ⟨by omega, q1, Or.inr q2⟩
    have e5 : (g_ls (fun f => g_F w h sl f) 73 (2 * n + 1)).length = (g_ls (fun f => g_F w h sl f) 73 (2 * (n + 1))).length + (if g_ce w h n ∧ 0 < sl n then 1 else 0) := by
      rw [g_ls_s (by omega), show 2 * n + 1 + 1 = 2 * (n + 1) by omega]
      by_cases hc : g_ce w h n ∧ 0 < sl n
      · rw [if_pos (hF1.2 hc), if_pos hc, List.length_cons]
      · rw [if_neg (fun q => hc (hF1.1 q)), if_neg hc]
        omega
    rw [e0, e1, e2, e3, e4, e5, ih]
    omega
  · obtain rfl : n = 36 := by omega
    rw [g_ls_z (P := fun n => g_ce w h n) (by omega), g_ls_z (P := fun e => g_E w h sl e) (by omega), show (2 : Int) * 36 = 72 by omega, g_ls_y (by omega) (Or.inl rfl), g_ls_z (by omega)]
    rfl
theorem t_fc {w h : Int} {sl : Int → Int} {M : jm_Mem} (hg : g_ok w h sl) (hT : g_tb w h sl M) : M 1 14 = ((g_fs w h sl).length : Int) := by
  obtain ⟨-, -, -, -, -, h1, h2, -⟩ := hT
  have h3 := g_fcount hg 0 (by omega) (by omega)
  have h4 := g_cells hg.1
  rw [show (2 : Int) * 0 = 0 by omega, show (3 : Int) * 0 = 0 by omega] at h3
  have h5 : (g_fs w h sl).length = (g_ls (fun n => g_ce w h n) 36 0).length + ((g_el w h sl).filter (fun x => decide (x % 3 = 2))).length + 1 := h3
  rw [h2, h1]
  omega
/-! solve -/
theorem d_rp_0 {M : jm_Mem} : d_rp (b_0 72) (jm_st (jm_sr (jm_sr M 34 (jm_fl ((73 : Nat) : Int) 2147483647 (M 34))) 35 (jm_fl ((73 : Nat) : Int) (-1) (M 35))) 34 72 0) := by
  intro v v0 v1
  simp only [jm_st_e, jm_sr_e, Nat.reduceEqDiff, reduceIte]
  unfold b_0 jm_fl
  dsimp only
  by_cases q : v = 72
  · rw [q, jm_up_s, if_pos rfl, if_pos (by omega)]
    exact ⟨rfl, rfl⟩
  · rw [jm_up_o q, if_neg q, if_pos (by omega), if_pos (by omega)]
    exact ⟨rfl, rfl⟩
theorem b_bd_0 (C t s0 : Int) (h : 0 ≤ C * t) : b_bd C t (b_0 s0) := by
  intro v a ha
  unfold b_0 at ha
  dsimp only at ha
  split at ha
  · injection ha with ha
    omega
  · cases ha
theorem p_0 {w h : Int} {sl fo ba : Int → Int} {M : jm_Mem} {Q : jm_Q} (hg : g_ok w h sl) (hT : g_tb w h sl M) (hfo : M 4 = fo) (hba : M 5 = ba) (hbo : g_bo fo ba) (hQ1 : ∀ (k : Nat) (M' : jm_Mem), b_fl (g_fw w h sl fo ba) (b_n (g_fw w h sl fo ba) k (b_0 72)) = false → d_rp (b_n (g_fw w h sl fo ba) k (b_0 72)) M' → jm_fr [33, 34, 35] M M' → Q (some (jm_I 1)) M') (hQ0 : ∀ s' g M', b_ff (g_fw w h sl fo ba) (b_n (g_fw w h sl fo ba) (g_fs w h sl).length (b_0 72)) = some (s', g) → d_rp s' M' → jm_fr [33, 34, 35] M M' → M' 33 5 = g → Q (some (jm_I 0)) M') : jm_cl 0 [jm_R 33, jm_R 1] M Q := by
  have hN := g_fs_len (w := w) (h := h) (sl := sl)
  have L : ∀ k, k ≤ ((g_fs w h sl).length : Int) → ∀ (n : Nat) (M1 : jm_Mem) (fl : Bool), k = (n : Int) → jm_fr [33, 34, 35] M M1 → d_rp (b_n (g_fw w h sl fo ba) n (b_0 72)) M1 → b_bd 100 (216 * (n : Int)) (b_n (g_fw w h sl fo ba) n (b_0 72)) → (fl = false → b_fl (g_fw w h sl fo ba) (b_n (g_fw w h sl fo ba) n (b_0 72)) = false) → jm_run 0 (17, [some (jm_R 33), some (jm_R 1), some (jm_I (jm_B (fl = true))), some (jm_I k)], [], M1) Q := by
    refine jm_dn ?_
    intro k hk ih n M1 fl hkn hf hr hbd hfl
    have hT1 := g_tb_fr hf (by decide) hT
    have m4 : M1 4 = fo := by rw [hf 4 (by decide)]; exact hfo
    have m5 : M1 5 = ba := by rw [hf 5 (by decide)]; exact hba
    refine sg_0_17 ?_
    rw [t_fc hg hT1]
    refine ⟨fun a => ⟨fun b => ⟨fun _ => ⟨by omega, by omega, ?_⟩, fun q => absurd b q⟩, fun b => ?_⟩, fun a => ⟨fun b => ⟨by omega, by omega, ?_⟩, fun b => ?_⟩⟩
    · rw [jm_B0, Bool.not_eq_true] at b
      exact hQ1 n M1 (hfl b) hr hf
    · refine p_1 (t := 216 * (n : Int)) hg hT1 m4 m5 hbo hbd (by omega) (by omega) hr ?_
      intro M2 hr2 hbd2 hf2
      refine ⟨_, rfl, ⟨by omega, by omega⟩, ih a (n + 1) M2 _ (by omega) (jm_fr_tr hf hf2) hr2 ?_ ?_⟩
      · rw [show 216 * ((n + 1 : Nat) : Int) = 216 * (n : Int) + 216 by omega]
        exact hbd2
      · intro q
        exact b_n_stop2 q (Nat.le_succ n)
    · rw [jm_B0, Bool.not_eq_true] at b
      exact hQ1 n M1 (hfl b) hr hf
    · have hn : n = (g_fs w h sl).length := by omega
      subst hn
      refine p_1f (t := 216 * ((g_fs w h sl).length : Int)) hg hT1 m4 m5 hbo hbd (by omega) (by omega) hr ?_ ?_
      · intro q
        exact ⟨0, rfl, fun _ => ⟨by omega, by omega, hQ1 _ M1 (b_ff_fl.1 q) hr hf⟩, fun q => absurd rfl q⟩
      · intro s' g M2 q1 q2 q3 q4
        exact ⟨1, rfl, fun q => absurd q (by omega), fun _ => ⟨by omega, by omega, hQ0 s' g M2 q1 q2 (jm_fr_tr hf q3) q4⟩⟩
  refine sc_0 ?_
  refine jm_fill (n := 73) (l := []) rfl rfl (by decide) ⟨rfl, ?_⟩
  refine jm_fill (n := 73) (l := []) rfl rfl (by decide) ⟨rfl, by omega, by omega, ?_⟩
  refine L 0 (by omega) 0 _ true rfl ?_ ?_ (b_bd_0 _ _ _ (by omega)) (fun q => by cases q)
  · exact jm_fr_tr (jm_fr_tr (jm_fr_sr (by decide)) (jm_fr_sr (by decide))) (jm_fr_st (by decide))
  · exact d_rp_0
