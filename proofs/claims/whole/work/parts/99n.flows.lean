/-! commands that change: flows -/
def z_sa (cs : List Nat) (is : List Int) (M M' : jm_Mem) : Prop := (∀ c ∈ cs, M' c = M c) ∧ ∀ i ∈ is, M' 67 i = M 67 i
theorem z_sa_fr {cs ds : List Nat} {is : List Int} {M M' : jm_Mem} (hf : jm_fr ds M M') (h1 : ∀ c ∈ cs, c ∉ ds) (h2 : 67 ∉ ds) : z_sa cs is M M' := ⟨fun c hc => hf c (h1 c hc), fun i _ => by rw [hf 67 h2]⟩
theorem z_sa_fx {cs ds : List Nat} {is js : List Int} {M M' : jm_Mem} (hf : jm_fx ds js M M') (h1 : ∀ c ∈ cs, c ∉ ds ∧ c ≠ 67) (h2 : ∀ i ∈ is, i ∉ js) : z_sa cs is M M' := ⟨fun c hc => hf.1 c (h1 c hc).1 (h1 c hc).2, fun i hi => hf.2 i (h2 i hi)⟩
theorem z_sa_tr {cs : List Nat} {is : List Int} {M M1 M2 : jm_Mem} (a : z_sa cs is M M1) (b : z_sa cs is M1 M2) : z_sa cs is M M2 := ⟨fun c hc => (b.1 c hc).trans (a.1 c hc), fun i hi => (b.2 i hi).trans (a.2 i hi)⟩
abbrev z_c1 : List Nat := [1, 2, 3, 4, 5, 6, 7, 8, 9, 10, 11, 12, 13, 14, 15]
abbrev z_c2 : List Nat := [68, 69, 70, 71]
abbrev z_c3 : List Nat := [22, 23, 24, 25, 26, 27, 28, 29, 30, 31, 32, 93]
theorem z_C_on {w h : Int} {sl fo ba su : Int → Int} {M M' : jm_Mem} (e : z_sa z_c1 [] M M') (hH : z_C w h sl fo ba su M) : z_C w h sl fo ba su M' := by
  obtain ⟨h1, h2, h3, h4⟩ := hH
  refine ⟨?_, ?_, ?_, ?_⟩
  · unfold g_tb g_pl at h1 ⊢
    rw [e.1 1 (by decide), e.1 2 (by decide), e.1 3 (by decide), e.1 14 (by decide), e.1 15 (by decide), e.1 7 (by decide), e.1 8 (by decide), e.1 9 (by decide), e.1 10 (by decide), e.1 11 (by decide), e.1 12 (by decide), e.1 13 (by decide)]
    exact h1
  · rw [e.1 4 (by decide)]; exact h2
  · rw [e.1 5 (by decide)]; exact h3
  · rw [e.1 6 (by decide)]; exact h4
theorem z_R_on {w h : Int} {sl fo ba su : Int → Int} {M M' : jm_Mem} (e : z_sa z_c2 [1, 2] M M') (hH : z_R w h sl fo ba su M) : z_R w h sl fo ba su M' := by
  unfold z_R r_X at hH ⊢
  rw [e.2 1 (by decide), e.2 2 (by decide), e.1 68 (by decide), e.1 69 (by decide), e.1 70 (by decide), e.1 71 (by decide)]
  exact hH
theorem z_W_on {w h : Int} {sl : Int → Int} {M M' : jm_Mem} (e : z_sa [42, 43, 44, 81, 82, 84] [33] M M') (hH : z_W w h sl M) : z_W w h sl M' := by
  unfold z_W at hH ⊢
  rw [e.2 33 (by decide), e.1 42 (by decide), e.1 43 (by decide), e.1 44 (by decide), e.1 81 (by decide), e.1 82 (by decide), e.1 84 (by decide)]
  exact hH
theorem z_I_on {M M' : jm_Mem} (e : z_sa z_c3 [51] M M') (hH : z_I M) : z_I M' := by
  unfold z_I at hH ⊢
  rw [e.2 51 (by decide), e.1 22 (by decide)]
  exact ⟨hH.1, hH.2.1, hH.2.2.1, fun q => z_im_eq (e.1 23 (by decide)) (e.1 24 (by decide)) (e.1 25 (by decide)) (e.1 26 (by decide)) (e.1 27 (by decide)) (e.1 93 (by decide)) (hH.2.2.2.1 q), fun q => z_im_eq (e.1 28 (by decide)) (e.1 29 (by decide)) (e.1 30 (by decide)) (e.1 31 (by decide)) (e.1 32 (by decide)) (e.1 93 (by decide)) (hH.2.2.2.2 q)⟩
theorem z_T_on {M M' : jm_Mem} (e : z_sa [65, 66, 72] [8] M M') (hH : z_T M) : z_T M' := by
  unfold z_T at hH ⊢
  rw [e.2 8 (by decide), e.1 65 (by decide), e.1 66 (by decide), e.1 72 (by decide)]
  exact hH
theorem z_tb_on {M M' : jm_Mem} (e : z_sa [73] [20] M M') (hH : y_tb M) : y_tb M' := by
  unfold y_tb at hH ⊢
  rw [e.2 20 (by decide), e.1 73 (by decide)]
  exact hH
section Z7
variable {w h : Int} {sl fo ba su : Int → Int} {M : jm_Mem}
def k_z (σ : k_S) : Prop := σ.2.2.2.1 = 0 → σ.2.2.2.2.2 = 0
theorem k_po_z {s : Int} (hg : g_ok w h sl) (hs : g_nd w h s) : ∀ (n : Nat) (rest K : Int) (σ : k_S), rest = (n : Int) → k_iv w h sl fo ba K σ → k_z σ → k_z (k_po w h sl fo ba s rest σ).2 := by
  intro n
  induction n using Nat.strongRecOn with
  | ind n ih =>
    intro rest K σ hn hiv hz
    have stop : k_po w h sl fo ba s rest σ = (rest, σ) → k_z (k_po w h sl fo ba s rest σ).2 := fun q => by rw [q]; exact hz
    by_cases hr : 0 < rest
    · cases hw : k_way w h sl fo ba σ.1 σ.2.1 s with
      | none => exact stop (k_po_n hw)
      | some st =>
        have hb := k_by_b hg hs hiv.1 hr hw
        rw [k_po_s hg hs hiv hr hw]
        refine ih (rest - k_by sl fo ba st rest σ).toNat (by omega) (rest - k_by sl fo ba st rest σ) (K + k_by sl fo ba st rest σ) _ (by omega) (k_iv_pu hg hs hiv hr hw) ?_
        intro q
        have q : σ.2.2.2.1 + 1 = 0 := q
        have := hiv.2.2.2.1
        omega
    · exact stop (k_po_0 hr)
theorem k_ga_z {each : Int} (hg : g_ok w h sl) (e1 : 1 ≤ each) : ∀ (l : List Int) (sum K : Int) (σ : k_S), (∀ n ∈ l, g_nd w h n) → k_iv w h sl fo ba K σ → k_z σ → k_z (k_ga w h sl fo ba each l sum σ).2 ∧ ∃ K', k_iv w h sl fo ba K' (k_ga w h sl fo ba each l sum σ).2
  | [], sum, K, σ, _, hiv, hz => ⟨hz, K, hiv⟩
  | n :: l, sum, K, σ, hl, hiv, hz => by
    have hn := hl n (List.mem_cons_self ..)
    exact k_ga_z hg e1 l _ _ _ (fun m hm => hl m (List.mem_cons_of_mem _ hm)) (k_po_iv hg hn each.toNat each K σ (by omega) hiv).1 (k_po_z hg hn each.toNat each K σ (by omega) hiv hz)
theorem k_me_z {su : Int → Int} (hg : g_ok w h sl) : ∀ (l : List Int) (sum K : Int) (σ : k_S), (∀ n ∈ l, g_nd w h n) → k_iv w h sl fo ba K σ → k_z σ → k_z (k_me w h sl fo ba su l sum σ).2 ∧ ∃ K', k_iv w h sl fo ba K' (k_me w h sl fo ba su l sum σ).2
  | [], sum, K, σ, _, hiv, hz => ⟨hz, K, hiv⟩
  | n :: l, sum, K, σ, hl, hiv, hz => by
    have hn := hl n (List.mem_cons_self ..)
    have h0 : 0 ≤ k_li su n := by unfold k_li; split <;> omega
    exact k_me_z hg l _ _ _ (fun m hm => hl m (List.mem_cons_of_mem _ hm)) (k_po_iv hg hn (k_li su n).toNat (k_li su n) K σ (by omega) hiv).1 (k_po_z hg hn (k_li su n).toNat (k_li su n) K σ (by omega) hiv hz)
/-- behind a flow of both -/
theorem z_told {σ : k_S} {K s t kd : Int} {M M2 M3 M5 : jm_Mem} (hbo : g_bo fo ba) (hS : z_S w h sl fo ba su M) (hiv : k_iv w h sl fo ba K σ) (hz : k_z σ) (ht : t_rp_S w h sl σ M2) (f2 : jm_fr [33, 34, 35, 42, 43, 44, 45, 46, 47, 48, 49, 50, 51] M M2) (h4 : M2 42 4 = kd) (hkd : 1 ≤ kd ∧ kd ≤ 3) (h5 : M2 42 5 = s) (h6 : M2 42 6 = t) (hst : kd = 1 → g_nd w h s ∧ g_nd w h t) (hs1 : kd ≠ 1 → s = -1) (hx : x_tr w h sl σ M3) (f3 : jm_fx [74, 75, 80, 83, 85, 86, 87, 88, 89, 90] [0, 24, 34, 35, 36, 45] M2 M3) (hgv : kd ≠ 1 → ∀ n, g_nd w h n → M3 83 n = σ.2.2.1 n) (a81 : ∀ e, 0 ≤ e → e < 108 → M5 81 e = M3 80 e) (a84 : ∀ n, 0 ≤ n → n < 36 → M5 84 n = M3 83 n) (a33 : M5 67 33 = 1) (b0 : M5 82 0 = M3 67 34) (b1 : M5 82 1 = M3 67 35) (b2 : M5 82 2 = (if M3 67 34 = 0 then 0 else M3 67 36)) (b3 : M5 82 3 = s) (b4 : M5 82 4 = t) (f5 : jm_fx [81, 82, 84] [33] M3 M5) : z_Sm M5 ∧ y_gh 760 M M5 := by
  obtain ⟨hzg, hC, hR, hW, hI, hT, hb⟩ := hS
  have hm := g_mul hzg.1.1.1
  have f35 : jm_fx [74, 75, 80, 83, 85, 86, 87, 88, 89, 90, 81, 82, 84] [0, 24, 34, 35, 36, 45, 33] M2 M5 := jm_fx_tr (jm_fx_mo f3 (by decide) (by decide)) (jm_fx_mo f5 (by decide) (by decide))
  have e42 : M5 42 = M2 42 := f35.1 42 (by decide) (by decide)
  have e43 : M5 43 = M2 43 := f35.1 43 (by decide) (by decide)
  have e44 : M5 44 = M2 44 := f35.1 44 (by decide) (by decide)
  have on : ∀ {cs : List Nat} {is : List Int}, (∀ c ∈ cs, c ∉ [33, 34, 35, 42, 43, 44, 45, 46, 47, 48, 49, 50, 51]) → (∀ c ∈ cs, c ∉ [74, 75, 80, 83, 85, 86, 87, 88, 89, 90, 81, 82, 84] ∧ c ≠ 67) → (∀ i ∈ is, i ∉ [0, 24, 34, 35, 36, 45, 33]) → z_sa cs is M M5 := fun a1 a2 a3 => z_sa_tr (z_sa_fr f2 a1 (by decide)) (z_sa_fx f35 a2 a3)
  refine ⟨⟨w, h, sl, fo, ba, su, hzg, z_C_on (on (by decide) (by decide) (by decide)) hC, z_R_on (on (by decide) (by decide) (by decide)) hR, Or.inr ⟨?_, a33, fun e he => ?_, ⟨?_, ?_, ?_, ?_, ?_⟩, fun q => ?_, fun q => ⟨?_, fun n hn => ?_⟩⟩, z_I_on (on (by decide) (by decide) (by decide)) hI, z_T_on (on (by decide) (by decide) (by decide)) hT, z_tb_on (on (by decide) (by decide) (by decide)) hb⟩, ?_⟩
  · rw [e42, h4]; exact hkd
  · obtain ⟨p1, p2, -, -⟩ := g_Eb hzg.1.1.1 he
    have c1 := hiv.1 e he
    have c2 := hbo e
    rw [a81 e p1 p2, hx.1 e he, e43, ht.1 e he]
    exact ⟨rfl, by omega, by omega⟩
  · rw [e42, h5]; exact b3
  · rw [e42, h6]; exact b4
  · rw [e42, b0, hx.2.1]; exact ht.2.2.1.symm
  · rw [e42, b1, hx.2.2.1]; exact ht.2.2.2.1.symm
  · rw [e42, b2, hx.2.1, hx.2.2.2, ht.2.2.2.2]
    by_cases q : σ.2.2.2.1 = 0
    · rw [if_pos q]; exact (hz q).symm
    · rw [if_neg q, if_neg q]
  · rw [e42, h4] at q
    rw [e42, h5, h6]; exact hst q
  · rw [e42, h4] at q
    rw [e42, h5]; exact hs1 q
  · rw [e42, h4] at q
    rw [a84 n hn.1 (by have := hn.2; omega), hgv q n hn, e44]
    exact ((ht.2.1 n hn).2).symm
  · refine z_gh ?_
    rw [f35.1 999 (by decide) (by decide), f2 999 (by decide)]
theorem z_flow (hS : z_S w h sl fo ba su M) (s t : Int) : z_stp 95 [jm_I s, jm_I t] 183 M := by
  obtain ⟨hz, ⟨hT, c4, c5, c6⟩, hR, -⟩ := id hS
  have hbo := z_bo hz
  have hg : g_ok w h sl := hz.1.1
  by_cases hP : g_nd w h s ∧ g_nd w h t ∧ s ≠ t
  · by_cases hc : g_circ w h sl fo ba
    · have hiv0 := k_s0_iv (fo := fo) (ba := ba) hg hc (k_t_wt (t := t))
      have hv := g_val_lt hg hbo hc hP.1 t
      have hiv := (k_po_iv hg hP.1 1000000 1000000 0 _ rfl hiv0).1
      have hkz := k_po_z hg hP.1 1000000 1000000 0 _ rfl hiv0 (fun _ => rfl)
      refine sc_95 ?_
      rw [e_113 hT]
      refine ⟨_, rfl, fun z => absurd hP (jm_B0.1 z), fun _ => p_0c hg hT c4 c5 hbo (fun _ M1 h34 f1 => ⟨_, rfl, fun z => absurd z (by decide), fun _ => ?_⟩) (fun z => absurd hc z)⟩
      refine p_54_S hg hc hbo (g_tb_fr f1 (by decide) hT) (by rw [f1 4 (by decide)]; exact c4) (by rw [f1 5 (by decide)]; exact c5) h34 (fun v hv => g_pt_bd hg hbo hc hv) hP.1 hP.2.1 ?_
      intro M2 t2 f2 m4 m5 m6
      have f2' : jm_fr [33, 34, 35, 42, 43, 44, 45, 46, 47, 48, 49, 50, 51] M M2 := jm_fr_tr (jm_fr_mo f1 (by decide)) (jm_fr_mo f2 (by decide))
      have hR2 : z_R w h sl fo ba su (jm_st M2 67 0 0) := z_R_on (z_sa_tr (z_sa_fr f2' (by decide) (by decide)) (z_sa_fx (ds := []) (js := [0]) (jm_fx_sx (by decide)) (by decide) (by decide))) hR
      refine ⟨_, rfl, _, rfl, sc_183 ?_⟩
      rw [r_181 hg.1 hR2.1]
      refine ⟨_, rfl, fun z => absurd hP (jm_B0.1 z), fun _ => p_182 hg hbo hR2.1 hR2.2.1 hR2.2.2.1 hP.1 hP.2.1 hP.2.2 (fun _ M3 t3 f3 => ⟨_, rfl, fun z => by omega, fun _ => p_180 (fun M4 g4 f4 => ⟨rfl, p_179 ?_⟩)⟩) (fun z => absurd hc z)⟩
      intro M5 a81 a84 a33 b0 b1 b2 b3 b4 f5
      refine ⟨rfl, rfl, z_told (kd := 1) hbo hS hiv hkz t2 f2' m4 (by omega) m5 m6 (fun _ => ⟨hP.1, hP.2.1⟩) (fun q => absurd rfl q) (M3 := M4) ?_ ?_ (fun q => absurd rfl q) a81 a84 a33 b0 b1 b2 b3 b4 f5⟩
      · obtain ⟨u1, u2, u3, u4⟩ := t3
        exact ⟨fun e he => by rw [f4 80 (by decide)]; exact u1 e he, by rw [f4 67 (by decide)]; exact u2, by rw [f4 67 (by decide)]; exact u3, by rw [f4 67 (by decide)]; exact u4⟩
      · exact jm_fx_tr (jm_fx_sx (by decide)) (jm_fx_tr (jm_fx_mo f3 (by decide) (by decide)) ⟨fun c hc _ => f4 c (fun q => hc ((by decide : ∀ c ∈ [83], c ∈ [74, 75, 80, 83, 85, 86, 87, 88, 89, 90]) c q)), fun i _ => by rw [f4 67 (by decide)]⟩)
    · refine z_mk hS (-2) ?_ ?_
      · intro Q hQ
        refine sc_95 ?_
        rw [e_113 hT]
        exact ⟨_, rfl, fun z => absurd hP (jm_B0.1 z), fun _ => p_0c hg hT c4 c5 hbo (fun z => absurd z hc) (fun _ _ _ M1 _ _ f1 _ => ⟨_, rfl, fun _ => hQ M1 (z_q_fr f1 (by decide) (by decide) (by decide)), fun z => absurd rfl z⟩)⟩
      · intro M1 Q S1 _ hQ
        obtain ⟨-, -, ⟨hX, x4, x5, x6⟩, -⟩ := z_X S1 0
        refine sc_183 ?_
        rw [r_181 hg.1 hX]
        exact ⟨_, rfl, fun z => absurd hP (jm_B0.1 z), fun _ => p_182 hg hbo hX x4 x5 hP.1 hP.2.1 hP.2.2 (fun z => absurd z hc) (fun _ M2 f2 => ⟨_, rfl, fun _ => hQ M2 (z_q_tr (z_q_0 M1 0) (z_q_fx f2 (by decide) (by decide) (by decide))), fun z => absurd (by decide) z⟩)⟩
  · refine z_mk hS (-1) ?_ ?_
    · intro Q hQ
      refine sc_95 ?_
      rw [e_113 hT]
      exact ⟨_, rfl, fun _ => hQ M (z_q_rfl M), fun z => absurd (jm_Bn.1 z) hP⟩
    · intro M1 Q S1 _ hQ
      obtain ⟨-, -, ⟨hX, x4, x5, x6⟩, -⟩ := z_X S1 0
      refine sc_183 ?_
      rw [r_181 hg.1 hX]
      exact ⟨_, rfl, fun _ => hQ _ (z_q_0 M1 0), fun z => absurd (jm_Bn.1 z) hP⟩
theorem z_gather (hS : z_S w h sl fo ba su M) (f t k : Int) : z_stp 103 [jm_I f, jm_I t, jm_I k] 200 M := by
  obtain ⟨hz, ⟨hT, c4, c5, c6⟩, hR, -⟩ := id hS
  have hbo := z_bo hz
  have hg : g_ok w h sl := hz.1.1
  have hm := g_mul hg.1
  by_cases hP : g_F w h sl f ∧ g_nd w h t ∧ 1 ≤ k ∧ k ≤ 999
  · obtain ⟨hF, hN, k1, k9⟩ := hP
    by_cases hc : g_circ w h sl fo ba
    · have hiv0 := k_s0_iv (fo := fo) (ba := ba) hg hc (k_t_wt (t := t))
      have hl : ∀ n ∈ g_gn w h sl f t 0, g_nd w h n := by
        intro n hn
        have := (g_ls_mem (P := fun n => n ≠ t ∧ g_aF w h sl n f = true) (N := w * h) 0 (by omega)).1 hn
        exact ⟨this.1, this.2.1⟩
      obtain ⟨hkz, K', hiv⟩ := k_ga_z (fo := fo) (ba := ba) hg k1 (g_gn w h sl f t 0) 0 0 _ hl hiv0 (fun _ => rfl)
      refine sc_103 ?_
      rw [e_21 hg hT]
      refine ⟨_, rfl, fun z => absurd hF (jm_B0.1 z), fun _ => ?_⟩
      rw [e_19 hT]
      refine ⟨_, rfl, fun z => absurd hN (jm_B0.1 z), fun _ => ⟨fun z => by omega, fun _ => ⟨fun z => by omega, fun _ => p_0c hg hT c4 c5 hbo (fun _ M1 h34 f1 => ⟨_, rfl, fun z => absurd z (by decide), fun _ => ?_⟩) (fun z => absurd hc z)⟩⟩⟩
      refine p_55 hg hc hbo (g_tb_fr f1 (by decide) hT) (by rw [f1 4 (by decide)]; exact c4) (by rw [f1 5 (by decide)]; exact c5) h34 hN k1 k9 ?_
      intro M2 t2 f2 m4 m5 m6
      have f2' : jm_fr [33, 34, 35, 42, 43, 44, 45, 46, 47, 48, 49, 50, 51] M M2 := jm_fr_tr (jm_fr_mo f1 (by decide)) (jm_fr_mo f2 (by decide))
      have hR2 : z_R w h sl fo ba su (jm_st M2 67 0 0) := z_R_on (z_sa_tr (z_sa_fr f2' (by decide) (by decide)) (z_sa_fx (ds := []) (js := [0]) (jm_fx_sx (by decide)) (by decide) (by decide))) hR
      refine ⟨_, rfl, _, rfl, sc_200 ?_⟩
      rw [r_130 hg.1 hR2.1]
      refine ⟨_, rfl, fun z => absurd hF (jm_B0.1 z), fun _ => ?_⟩
      rw [r_122 hg.1 hR2.1]
      refine ⟨_, rfl, fun z => absurd hN (jm_B0.1 z), fun _ => ?_⟩
      rw [e_119]
      refine ⟨_, rfl, fun z => absurd ⟨k1, k9⟩ (jm_B0.1 z), fun _ => p_170 hg hbo hR2.1 hR2.2.1 hR2.2.2.1 (fun _ M3 t3 f3 => ⟨_, rfl, fun z => absurd z (by decide), fun _ => p_180 (fun M4 g4 f4 => ⟨rfl, ?_⟩)⟩) (fun z => absurd hc z)⟩
      have hX4 : r_X w h sl M4 := by
        have := r_X_fx f3 (by decide) (by decide) (by decide) hR2.1
        unfold r_X at this ⊢
        rw [f4 67 (by decide), f4 68 (by decide)]; exact this
      have t4 : ∀ wt, x_tr w h sl (k_s0 w h sl fo ba wt) M4 := by
        intro wt
        obtain ⟨u1, u2, u3, u4⟩ := t3 wt
        exact ⟨fun e he => by rw [f4 80 (by decide)]; exact u1 e he, by rw [f4 67 (by decide)]; exact u2, by rw [f4 67 (by decide)]; exact u3, by rw [f4 67 (by decide)]; exact u4⟩
      refine p_200_29 hg hc hbo hX4 (by rw [f4 69 (by decide), f3.1 69 (by decide) (by decide)]; exact hR2.2.1) (by rw [f4 70 (by decide), f3.1 70 (by decide) (by decide)]; exact hR2.2.2.1) hN k1 k9 t4 g4 ?_
      intro M5 t5 g5 f5
      refine p_179 ?_
      intro M6 a81 a84 a33 b0 b1 b2 b3 b4 f6
      refine ⟨rfl, rfl, z_told (kd := 2) hbo hS hiv hkz t2 f2' m4 (by omega) m5 m6 (fun q => by omega) (fun _ => rfl) (M3 := M5) t5 ?_ (fun _ => g5) a81 a84 a33 b0 b1 b2 b3 b4 f6⟩
      exact jm_fx_tr (jm_fx_sx (by decide)) (jm_fx_tr (jm_fx_mo f3 (by decide) (by decide)) (jm_fx_tr ⟨fun c hc _ => f4 c (fun q => hc ((by decide : ∀ c ∈ [83], c ∈ [74, 75, 80, 83, 85, 86, 87, 88, 89, 90]) c q)), fun i _ => by rw [f4 67 (by decide)]⟩ (jm_fx_mo f5 (by decide) (by decide))))
    · refine z_mk hS (-2) ?_ ?_
      · intro Q hQ
        refine sc_103 ?_
        rw [e_21 hg hT]
        refine ⟨_, rfl, fun z => absurd hF (jm_B0.1 z), fun _ => ?_⟩
        rw [e_19 hT]
        exact ⟨_, rfl, fun z => absurd hN (jm_B0.1 z), fun _ => ⟨fun z => by omega, fun _ => ⟨fun z => by omega, fun _ => p_0c hg hT c4 c5 hbo (fun z => absurd z hc) (fun _ _ _ M1 _ _ f1 _ => ⟨_, rfl, fun _ => hQ M1 (z_q_fr f1 (by decide) (by decide) (by decide)), fun z => absurd rfl z⟩)⟩⟩⟩
      · intro M1 Q S1 _ hQ
        obtain ⟨-, -, ⟨hX, x4, x5, x6⟩, -⟩ := z_X S1 0
        refine sc_200 ?_
        rw [r_130 hg.1 hX]
        refine ⟨_, rfl, fun z => absurd hF (jm_B0.1 z), fun _ => ?_⟩
        rw [r_122 hg.1 hX]
        refine ⟨_, rfl, fun z => absurd hN (jm_B0.1 z), fun _ => ?_⟩
        rw [e_119]
        exact ⟨_, rfl, fun z => absurd ⟨k1, k9⟩ (jm_B0.1 z), fun _ => p_170 hg hbo hX x4 x5 (fun z => absurd z hc) (fun _ M2 f2 => ⟨_, rfl, fun _ => hQ M2 (z_q_tr (z_q_0 M1 0) (z_q_fx f2 (by decide) (by decide) (by decide))), fun z => absurd rfl z⟩)⟩
  · refine z_mk hS (-1) ?_ ?_
    · intro Q hQ
      have hQ := hQ M (z_q_rfl M)
      refine sc_103 ?_
      rw [e_21 hg hT]
      refine ⟨_, rfl, fun _ => hQ, fun y1 => ?_⟩
      rw [e_19 hT]
      refine ⟨_, rfl, fun _ => hQ, fun y2 => ⟨fun _ => hQ, fun y3 => ⟨fun _ => hQ, fun y4 => ?_⟩⟩⟩
      exact absurd ⟨jm_Bn.1 y1, jm_Bn.1 y2, by omega, by omega⟩ hP
    · intro M1 Q S1 _ hQ
      have hQ := hQ _ (z_q_0 M1 0)
      obtain ⟨-, -, ⟨hX, x4, x5, x6⟩, -⟩ := z_X S1 0
      refine sc_200 ?_
      rw [r_130 hg.1 hX]
      refine ⟨_, rfl, fun _ => hQ, fun y1 => ?_⟩
      rw [r_122 hg.1 hX]
      refine ⟨_, rfl, fun _ => hQ, fun y2 => ?_⟩
      rw [e_119]
      refine ⟨_, rfl, fun _ => hQ, fun y3 => ?_⟩
      exact absurd ⟨jm_Bn.1 y1, jm_Bn.1 y2, (jm_Bn.1 y3).1, (jm_Bn.1 y3).2⟩ hP
theorem z_meet (hS : z_S w h sl fo ba su M) : z_stp 105 [] 203 M := by
  obtain ⟨hz, ⟨hT, c4, c5, c6⟩, hR, -⟩ := id hS
  have hbo := z_bo hz
  have hg : g_ok w h sl := hz.1.1
  have hm := g_mul hg.1
  have hsb : ∀ v, -99 ≤ su v ∧ su v ≤ 99 := fun v => (hz.2 v).1
  by_cases hc : g_circ w h sl fo ba
  · have hiv0 := k_s0_iv (fo := fo) (ba := ba) hg hc (k_mw_b hsb)
    have hl : ∀ n ∈ g_nl w h 0, g_nd w h n := by
      intro n hn
      have := (g_ls_mem (P := fun _ => True) (N := w * h) 0 (by omega)).1 hn
      exact ⟨this.1, this.2.1⟩
    obtain ⟨hkz, K', hiv⟩ := k_me_z (fo := fo) (ba := ba) (su := su) hg (g_nl w h 0) 0 0 _ hl hiv0 (fun _ => rfl)
    refine sc_105 (p_0c hg hT c4 c5 hbo (fun _ M1 h34 f1 => ⟨_, rfl, fun z => absurd z (by decide), fun _ => ?_⟩) (fun z => absurd hc z))
    refine p_56 hg hc hbo (g_tb_fr f1 (by decide) hT) (by rw [f1 4 (by decide)]; exact c4) (by rw [f1 5 (by decide)]; exact c5) (by rw [f1 6 (by decide)]; exact c6) hsb h34 ?_
    intro M2 t2 f2 m4 m5 m6
    have f2' : jm_fr [33, 34, 35, 42, 43, 44, 45, 46, 47, 48, 49, 50, 51] M M2 := jm_fr_tr (jm_fr_mo f1 (by decide)) (jm_fr_mo f2 (by decide))
    have hR2 : z_R w h sl fo ba su (jm_st M2 67 0 0) := z_R_on (z_sa_tr (z_sa_fr f2' (by decide) (by decide)) (z_sa_fx (ds := []) (js := [0]) (jm_fx_sx (by decide)) (by decide) (by decide))) hR
    refine ⟨_, rfl, _, rfl, sc_203 (p_170 hg hbo hR2.1 hR2.2.1 hR2.2.2.1 (fun _ M3 t3 f3 => ⟨_, rfl, fun z => absurd z (by decide), fun _ => p_180 (fun M4 g4 f4 => ⟨rfl, ?_⟩)⟩) (fun z => absurd hc z))⟩
    have hX4 : r_X w h sl M4 := by
      have := r_X_fx f3 (by decide) (by decide) (by decide) hR2.1
      unfold r_X at this ⊢
      rw [f4 67 (by decide), f4 68 (by decide)]; exact this
    have t4 : ∀ wt, x_tr w h sl (k_s0 w h sl fo ba wt) M4 := by
      intro wt
      obtain ⟨u1, u2, u3, u4⟩ := t3 wt
      exact ⟨fun e he => by rw [f4 80 (by decide)]; exact u1 e he, by rw [f4 67 (by decide)]; exact u2, by rw [f4 67 (by decide)]; exact u3, by rw [f4 67 (by decide)]; exact u4⟩
    refine p_203_12 hg hc hbo hX4 (by rw [f4 69 (by decide), f3.1 69 (by decide) (by decide)]; exact hR2.2.1) (by rw [f4 70 (by decide), f3.1 70 (by decide) (by decide)]; exact hR2.2.2.1) (by rw [f4 71 (by decide), f3.1 71 (by decide) (by decide)]; exact hR2.2.2.2) hsb t4 g4 ?_
    intro M5 t5 g5 f5
    refine p_179 ?_
    intro M6 a81 a84 a33 b0 b1 b2 b3 b4 f6
    refine ⟨rfl, rfl, z_told (kd := 3) hbo hS hiv hkz t2 f2' m4 (by omega) m5 m6 (fun q => by omega) (fun _ => rfl) (M3 := M5) t5 ?_ (fun _ n hn => (g5 n hn).2) a81 a84 a33 b0 b1 b2 b3 b4 f6⟩
    exact jm_fx_tr (jm_fx_sx (by decide)) (jm_fx_tr (jm_fx_mo f3 (by decide) (by decide)) (jm_fx_tr ⟨fun c hc _ => f4 c (fun q => hc ((by decide : ∀ c ∈ [83], c ∈ [74, 75, 80, 83, 85, 86, 87, 88, 89, 90]) c q)), fun i _ => by rw [f4 67 (by decide)]⟩ (jm_fx_mo f5 (by decide) (by decide))))
  · refine z_mk hS (-2) ?_ ?_
    · intro Q hQ
      exact sc_105 (p_0c hg hT c4 c5 hbo (fun z => absurd z hc) (fun _ _ _ M1 _ _ f1 _ => ⟨_, rfl, fun _ => hQ M1 (z_q_fr f1 (by decide) (by decide) (by decide)), fun z => absurd rfl z⟩))
    · intro M1 Q S1 _ hQ
      obtain ⟨-, -, ⟨hX, x4, x5, x6⟩, -⟩ := z_X S1 0
      exact sc_203 (p_170 hg hbo hX x4 x5 (fun z => absurd z hc) (fun _ M2 f2 => ⟨_, rfl, fun _ => hQ M2 (z_q_tr (z_q_0 M1 0) (z_q_fx f2 (by decide) (by decide) (by decide))), fun z => absurd rfl z⟩))
end Z7
