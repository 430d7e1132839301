/-! ROUTES AND DISTANCES OF THE REFERENCE -/
section R4
variable {w h : Int} {sl fo ba : Int → Int}
/-- the cost from a face to another one, forward and backward -/
theorem g_two_ways (hg : g_ok w h sl) (hbo : g_bo fo ba) (hc : g_circ w h sl fo ba) {fr to : Int} (hfr : g_F w h sl fr) (hto : g_F w h sl to) {k : Nat} (hf : b_fl (g_fw w h sl fo ba) (b_n (g_fw w h sl fo ba) k (b_0 fr)) = false) : (b_n (g_fw w h sl fo ba) k (b_0 fr)).1 to = some (g_dc w h sl fo ba to fr) := by
  have hN := g_fs_len (w := w) (h := h) (sl := sl)
  have h73 := g_bwK_end hg hc hto (show (g_fs w h sl).length < 73 + 2 by omega)
  have h73' : b_fl (g_bw w h sl fo ba) (b_n (g_bw w h sl fo ba) 73 (b_0 to)) = false := b_flK (g_kb (show 73 ≤ 75 by omega)) h73
  have sD := (b_fl_f hf).2
  have sE := (b_fl_f h73').2
  have lD : ∀ v, g_F w h sl v → (b_n (g_fw w h sl fo ba) k (b_0 fr)).1 v ≠ none := fun v hv => g_fw_lab hg hfr (b_src_n (b_0_s fr) k) sD hv
  have lE : ∀ v, g_F w h sl v → (b_n (g_bw w h sl fo ba) 73 (b_0 to)).1 v ≠ none := fun v hv => g_bw_lab hg hto (b_src_n (b_0_s to) 73) sE hv
  have pD := b_pot sD (fun x hx => by
    obtain ⟨e, he, rfl | rfl⟩ := b_ar_mem.1 hx
    · exact lD _ (g_lfF hg ((g_el_mem hg.1).1 he)).1
    · exact lD _ (g_rtF hg ((g_el_mem hg.1).1 he)).1)
  have pE := b_pot sE (fun x hx => by
    obtain ⟨e, he, rfl | rfl⟩ := b_ar_mem.1 hx
    · exact lE _ (g_rtF hg ((g_el_mem hg.1).1 he)).1
    · exact lE _ (g_lfF hg ((g_el_mem hg.1).1 he)).1)
  obtain ⟨d, hd⟩ := Option.ne_none_iff_exists'.1 (lD to hto)
  obtain ⟨c, hcc⟩ := Option.ne_none_iff_exists'.1 (lE fr hfr)
  obtain ⟨d0, hd0, hd1⟩ := b_le0_n (A := g_fw w h sl fo ba) (s0 := fr) k
  obtain ⟨c0, hc0, hc1⟩ := b_le0_n (A := g_bw w h sl fo ba) (s0 := to) 73
  have e1 := b_lb_n (A := g_fw w h sl fo ba) (π := fun v => - ((b_n (g_bw w h sl fo ba) 73 (b_0 to)).1 v).getD 0) (s0 := fr) (fun x hx => by
    obtain ⟨e, he, rfl | rfl⟩ := b_ar_mem.1 hx
    · have := pE _ (b_ar_mem.2 ⟨e, he, Or.inl rfl⟩)
      dsimp only at this ⊢
      omega
    · have := pE _ (b_ar_mem.2 ⟨e, he, Or.inr rfl⟩)
      dsimp only at this ⊢
      omega) k to d hd
  have e2 := b_lb_n (A := g_bw w h sl fo ba) (π := fun v => - ((b_n (g_fw w h sl fo ba) k (b_0 fr)).1 v).getD 0) (s0 := to) (fun x hx => by
    obtain ⟨e, he, rfl | rfl⟩ := b_ar_mem.1 hx
    · have := pD _ (b_ar_mem.2 ⟨e, he, Or.inl rfl⟩)
      dsimp only at this ⊢
      omega
    · have := pD _ (b_ar_mem.2 ⟨e, he, Or.inr rfl⟩)
      dsimp only at this ⊢
      omega) 73 fr c hcc
  dsimp only at e1 e2
  rw [hcc, hc0] at e1
  rw [hd, hd0] at e2
  simp only [Option.getD_some] at e1 e2
  obtain ⟨b, hb1, hb2⟩ := b_cost (g_kb (show 73 ≤ 75 by omega)) hcc
  have h4 := g_dk_of hg hc hto h73 hfr
  rw [h4] at hb1
  injection hb1 with hb1
  rw [hd]
  congr 1
  unfold g_dc
  rw [hb1, hb2]
  omega
/-- the reference's costs to a face -/
theorem p_158b {M : jm_Mem} {Q : jm_Q} {to : Int} (hg : g_ok w h sl) (hbo : g_bo fo ba) (hc : g_circ w h sl fo ba) (hX : r_X w h sl M) (hfo : M 69 = fo) (hba : M 70 = ba) (hhv : M 67 24 = 0) (hto : g_F w h sl to) (hQ : ∀ M', (∀ v, g_F w h sl v → M' 74 v = g_dc w h sl fo ba to v ∧ M' 75 v = g_dh w h sl fo ba to v) → jm_fr [74, 75] M M' → Q (some (jm_I 1)) M') : jm_cl 158 [jm_R 67, jm_I to, jm_I 1] M Q := by
  have hN := g_fs_len (w := w) (h := h) (sl := sl)
  have hb := g_Fb hg hto
  refine p_158 (hv := 0) (ih := M 76) hg hbo hX hfo hba hhv rfl hb.1 (by omega) ?_ ?_
  · intro k M' hk h1 h2 h3
    rw [x_ar_b] at h1 h2
    refine hQ M' ?_ h3
    intro v hv
    have hvb := g_Fb hg hv
    rw [(h2 v hvb.1 (by omega)).1, (h2 v hvb.1 (by omega)).2, g_dk_of hg hc hto h1 hv]
    exact ⟨rfl, rfl⟩
  · intro M' h1 h3
    rw [x_ar_b, g_bwK_end hg hc hto (show (g_fs w h sl).length < 74 + 2 by omega)] at h1
    cases h1
/-- the reference's costs from a face -/
theorem p_158f {M : jm_Mem} {Q : jm_Q} {fr to : Int} (hg : g_ok w h sl) (hbo : g_bo fo ba) (hc : g_circ w h sl fo ba) (hX : r_X w h sl M) (hfo : M 69 = fo) (hba : M 70 = ba) (hhv : M 67 24 = 0) (hfr : g_F w h sl fr) (hto : g_F w h sl to) (hQ : ∀ M', M' 74 to = g_dc w h sl fo ba to fr → jm_fr [74, 75] M M' → Q (some (jm_I 1)) M') : jm_cl 158 [jm_R 67, jm_I fr, jm_I 0] M Q := by
  have hN := g_fs_len (w := w) (h := h) (sl := sl)
  have hb := g_Fb hg hfr
  have hb2 := g_Fb hg hto
  refine p_158 (hv := 0) (ih := M 76) hg hbo hX hfo hba hhv rfl hb.1 (by omega) ?_ ?_
  · intro k M' hk h1 h2 h3
    rw [x_ar_f] at h1 h2
    have h1' := b_flK (g_kb hk) h1
    refine hQ M' ?_ h3
    obtain ⟨b, q1, q2⟩ := b_cost (g_kb hk) (g_two_ways hg hbo hc hfr hto h1')
    rw [(h2 to hb2.1 (by omega)).1, q1]
    exact q2
  · intro M' h1 h3
    rw [x_ar_f, g_fwK_end hg hc hfr (show (g_fs w h sl).length < 74 + 2 by omega)] at h1
    cases h1
theorem p_161 {M : jm_Mem} {Q : jm_Q} {to f : Int} (hg : g_ok w h sl) (hbo : g_bo fo ba) (hc : g_circ w h sl fo ba) (hX : r_X w h sl M) (hfo : M 69 = fo) (hba : M 70 = ba) (hto : g_F w h sl to) (hf : g_F w h sl f) (hne : f ≠ to) (hK : ∀ v, g_F w h sl v → M 74 v = g_dc w h sl fo ba to v ∧ M 75 v = g_dh w h sl fo ba to v) (hQ : Q (some (jm_I (g_ne w h sl fo ba to f))) (jm_st M 67 25 (g_nf w h sl fo ba to f))) : jm_cl 161 [jm_R 67, jm_I f] M Q := by
  have hfb := g_Fb hg hf
  have hE0 := (g_ne_of hg hbo hc hto hf hne).1
  have L : ∀ e, e ≤ 108 → 0 ≤ e → ∀ (o3 o4 o5 o6 : Option jm_V), g_ne w h sl fo ba to f = g_fd w h sl fo ba to f (g_ls (fun e => g_E w h sl e) 108 e) → jm_run 161 (2, [some (jm_R 67), some (jm_I f), some (jm_I e), o3, o4, o5, o6], [], M) Q := by
    refine jm_dn ?_
    intro e he ih e0 o3 o4 o5 o6 hq
    refine sg_161_2 ⟨fun a => ?_, fun a => ?_⟩
    · rw [r_124 hg.1 hX]
      refine ⟨_, rfl, fun b => sg_161_94 ⟨⟨by omega, by omega⟩, ?_⟩, fun b => ?_⟩
      · rw [jm_B0] at b
        rw [g_ls_n a b] at hq
        exact ih a (by omega) _ _ _ _ hq
      · rw [jm_Bn] at b
        rw [g_ls_y a b] at hq
        have hq : g_ne w h sl fo ba to f = if g_nC w h sl fo ba to f e then e else g_fd w h sl fo ba to f (g_ls (fun e => g_E w h sl e) 108 (e + 1)) := hq
        have htwo := g_two hg.1 b
        obtain ⟨lF, l0, l1⟩ := g_lfF hg b
        obtain ⟨rF, r0, r1⟩ := g_rtF hg b
        obtain ⟨o1, o2, o3', o4', o5'⟩ := hbo e
        have bl := g_d_bd hg hbo hc hto lF
        have br := g_d_bd hg hbo hc hto rF
        have go : ∀ (o3 o4 o5 o6 : Option jm_V), ¬ g_nC w h sl fo ba to f e → jm_run 161 (94, [some (jm_R 67), some (jm_I f), some (jm_I e), o3, o4, o5, o6], [], M) Q := by
          intro o3 o4 o5 o6 q
          rw [if_neg q] at hq
          exact sg_161_94 ⟨⟨by omega, by omega⟩, ih a (by omega) _ _ _ _ hq⟩
        rw [r_128 hg.1 hX b]
        refine ⟨_, rfl, ?_⟩
        rw [r_129 hg.1 hX b]
        refine ⟨g_rt w h sl e, rfl, ?_⟩
        rw [hfo, hba, (hK _ rF).1, (hK _ rF).2, (hK _ lF).1, (hK _ lF).2, (hK _ hf).1, (hK _ hf).2]
        have kr := (g_key_iff hg hbo hc (W := fo e) hto hf rF).2
        have kl := (g_key_iff hg hbo hc (W := ba e) hto hf lF).2
        have no47 : ∀ o5 o6, (g_lf w h sl e = f → ¬ (g_dc w h sl fo ba to (g_rt w h sl e) + fo e = g_dc w h sl fo ba to f ∧ g_dh w h sl fo ba to (g_rt w h sl e) + 1 = g_dh w h sl fo ba to f)) → jm_run 161 (47, [some (jm_R 67), some (jm_I f), some (jm_I e), some (jm_I (g_lf w h sl e)), some (jm_I (g_rt w h sl e)), o5, o6], [], M) Q := by
          intro o5 o6 hno
          have nl : ¬ (g_lf w h sl e = f ∧ g_dk w h sl fo ba to f = g_dk w h sl fo ba to (g_rt w h sl e) + 65536 * fo e + 1) := fun q => hno q.1 (kr.2 q.2)
          have no79 : ∀ o6, ¬ (g_rt w h sl e = f ∧ g_dk w h sl fo ba to f = g_dk w h sl fo ba to (g_lf w h sl e) + 65536 * ba e + 1) → jm_run 161 (79, [some (jm_R 67), some (jm_I f), some (jm_I e), some (jm_I (g_lf w h sl e)), some (jm_I (g_rt w h sl e)), some (jm_I 0), o6], [], M) Q := by
            intro o6 nr
            exact sg_161_79 ⟨fun _ => ⟨fun _ => go _ _ _ _ (fun q => q.elim nl nr), fun q => absurd rfl q⟩, fun q => absurd rfl q⟩
          refine sg_161_47 ?_
          rw [hba, (hK _ lF).1, (hK _ lF).2, (hK _ hf).1, (hK _ hf).2]
          refine ⟨fun c => ⟨l0, by omega, e0, a, ⟨by omega, by omega⟩, hfb.1, by omega, fun d => ⟨l0, by omega, ⟨by omega, by omega⟩, hfb.1, by omega, fun k => ⟨fun _ => ⟨fun q => absurd q (by omega), fun _ => sg_161_85 ⟨fun _ => ?_, fun q => absurd rfl q⟩⟩, fun q => absurd rfl q⟩, fun k => no79 _ (fun q => k (kl.2 q.2).2)⟩, fun d => no79 _ (fun q => d (kl.2 q.2).1)⟩, fun c => no79 _ (fun q => c q.1)⟩
          have hC : g_nC w h sl fo ba to f e := Or.inr ⟨c, kl.1 ⟨d, k⟩⟩
          rw [if_pos hC] at hq
          have hnf : g_nf w h sl fo ba to f = g_lf w h sl e := by
            unfold g_nf
            rw [hq, if_neg (fun r => htwo (r.trans c.symm))]
          rw [hnf] at hQ
          rw [hq] at hQ
          exact hQ
        refine ⟨fun c => ⟨r0, by omega, e0, a, ⟨by omega, by omega⟩, hfb.1, by omega, fun d => ⟨r0, by omega, ⟨by omega, by omega⟩, hfb.1, by omega, fun k => ⟨fun q => absurd (c.trans q.symm) htwo, fun q => sg_161_79 ⟨fun r => absurd r (by omega), fun _ => sg_161_85 ⟨fun r => absurd r (by omega), fun _ => ?_⟩⟩⟩, fun k => no47 _ _ (fun _ q => k q.2)⟩, fun d => no47 _ _ (fun _ q => d q.1)⟩, fun c => no47 _ _ (fun q => absurd q c)⟩
        have hC : g_nC w h sl fo ba to f e := Or.inl ⟨c, kr.1 ⟨d, k⟩⟩
        rw [if_pos hC] at hq
        have hnf : g_nf w h sl fo ba to f = g_rt w h sl e := by
          unfold g_nf
          rw [hq, if_pos c]
        rw [hnf] at hQ
        rw [hq] at hQ
        exact hQ
    · rw [g_ls_z (by omega)] at hq
      have hq : g_ne w h sl fo ba to f = -1 := hq
      have := hE0.1
      omega
  exact sc_161 (L 0 (by omega) (by omega) _ _ _ _ rfl)
end R4
