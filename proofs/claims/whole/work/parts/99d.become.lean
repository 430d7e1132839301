/-! TEXTS: what the class becomes -/
/-- what is told, as an object of the class holds it -/
def z_td (c : Nat) (w h : Int) (sl fo ba su : Int → Int) (M : jm_Mem) : Prop := M c 4 = w ∧ M c 5 = h ∧ (∀ v, 0 ≤ v → v < 36 → M (c + 1) v = sl v ∧ M (c + 4) v = su v) ∧ ∀ e, 0 ≤ e → e < 108 → M (c + 2) e = fo e ∧ M (c + 3) e = ba e
def z_g (w h : Int) (sl fo ba su : Int → Int) : Prop := y_gd w h (sl, fo, ba) ∧ ∀ v, (-99 ≤ su v ∧ su v ≤ 99) ∧ (¬ (0 ≤ v ∧ v < 36) → su v = 0)
def z_C (w h : Int) (sl fo ba su : Int → Int) (M : jm_Mem) : Prop := g_tb w h sl M ∧ M 4 = fo ∧ M 5 = ba ∧ M 6 = su
def z_R (w h : Int) (sl fo ba su : Int → Int) (M : jm_Mem) : Prop := r_X w h sl M ∧ M 69 = fo ∧ M 70 = ba ∧ M 71 = su
def z_o (M : jm_Mem) : Prop := (∀ v, ¬ (0 ≤ v ∧ v < 36) → M 3 v = 0 ∧ M 6 v = 0) ∧ ∀ e, ¬ (0 ≤ e ∧ e < 108) → M 4 e = 0 ∧ M 5 e = 0
theorem z_g_sl {w h : Int} {sl fo ba su : Int → Int} (hz : z_g w h sl fo ba su) {v : Int} (hv : ¬ (0 ≤ v ∧ v < 36)) : sl v = 0 := by
  have h1 := hz.1.1.2 v
  have h2 := g_mul hz.1.1.1
  by_cases q : sl v = 0
  · exact q
  · have h3 := h1.2.2 q
    unfold g_ce at h3
    omega
theorem z_C_o {w h : Int} {sl fo ba su : Int → Int} {M : jm_Mem} (hz : z_g w h sl fo ba su) (hC : z_C w h sl fo ba su M) : z_o M := by
  obtain ⟨h1, h2, h3, h4⟩ := hC
  refine ⟨fun v hv => ⟨?_, ?_⟩, fun e he => ⟨?_, ?_⟩⟩
  · rw [h1.2.2.1]; exact z_g_sl hz hv
  · rw [h4]; exact (hz.2 v).2 hv
  · rw [h2]; exact (hz.1.2.2 e he).1
  · rw [h3]; exact (hz.1.2.2 e he).2
theorem z_cpy {f g F : Int → Int} {n : Int} (h1 : ∀ v, 0 ≤ v → v < n → f v = F v) (h2 : ∀ v, ¬ (0 ≤ v ∧ v < n) → g v = F v) : jm_cpy f g 0 0 n = F := by
  funext j
  unfold jm_cpy
  by_cases q : 0 ≤ j ∧ j < n
  · rw [if_pos (by omega), show (0 : Int) + (j - 0) = j from by omega]
    exact h1 j q.1 q.2
  · rw [if_neg (by omega)]
    exact h2 j q
theorem z_cpy_in {f g : Int → Int} {n v : Int} (v0 : 0 ≤ v) (v1 : v < n) : jm_cpy f g 0 0 n v = f v := by
  unfold jm_cpy
  rw [if_pos (by omega), show (0 : Int) + (v - 0) = v from by omega]
theorem p_10_Dr {w h : Int} {sl fo ba su : Int → Int} {M : jm_Mem} {Q : jm_Q} (hz : z_g w h sl fo ba su) (ht : z_td 16 w h sl fo ba su M) (ho : z_o M) (hQ : ∀ M', z_C w h sl fo ba su M' → jm_fr [1, 2, 3, 4, 5, 6, 7, 8, 9, 10, 11, 12, 13, 14, 15] M M' → Q none M') : jm_cl 10 [jm_R 1, jm_R 16] M Q := by
  obtain ⟨t1, t2, t3, t4⟩ := ht
  refine sc_10_Dr (sc_76_T_Dr ⟨by omega, by omega, by omega, by omega, by omega, by omega, by omega, by omega, by omega, by omega, by omega, by omega, by omega, by omega, by omega, by omega, by omega, by omega, by omega, by omega, rfl, ?_⟩)
  have e3 : jm_cpy (M 17) (M 3) 0 0 36 = sl := z_cpy (fun v v0 v1 => (t3 v v0 v1).1) (fun v hv => by rw [(ho.1 v hv).1, z_g_sl hz hv])
  have e6 : jm_cpy (M 20) (M 6) 0 0 36 = su := z_cpy (fun v v0 v1 => (t3 v v0 v1).2) (fun v hv => by rw [(ho.1 v hv).2, (hz.2 v).2 hv])
  have e4 : jm_cpy (M 18) (M 4) 0 0 108 = fo := z_cpy (fun v v0 v1 => (t4 v v0 v1).1) (fun v hv => by rw [(ho.2 v hv).1]; exact ((hz.1.2.2 v hv).1).symm)
  have e5 : jm_cpy (M 19) (M 5) 0 0 108 = ba := z_cpy (fun v v0 v1 => (t4 v v0 v1).2) (fun v hv => by rw [(ho.2 v hv).2]; exact ((hz.1.2.2 v hv).2).symm)
  refine p_11 (by
    show g_ok (M 16 4) (M 16 5) (jm_cpy (M 17) (M 3) 0 0 36)
    rw [t1, t2, e3]
    exact hz.1.1) ?_
  intro M' hT hf
  refine ⟨rfl, hQ M' ⟨?_, ?_, ?_, ?_⟩ ?_⟩
  · have hT' : g_tb (M 16 4) (M 16 5) (jm_cpy (M 17) (M 3) 0 0 36) M' := hT
    rw [t1, t2, e3] at hT'
    exact hT'
  · rw [hf 4 (by decide)]; exact e4
  · rw [hf 5 (by decide)]; exact e5
  · rw [hf 6 (by decide)]; exact e6
  · refine jm_fr_tr ?_ (jm_fr_mo hf (by decide))
    exact jm_fr_tr (jm_fr_st (by decide)) (jm_fr_tr (jm_fr_st (by decide)) (jm_fr_tr (jm_fr_sr (by decide)) (jm_fr_tr (jm_fr_sr (by decide)) (jm_fr_tr (jm_fr_sr (by decide)) (jm_fr_sr (by decide))))))
theorem p_10_I0 {w h : Int} {sl fo ba su : Int → Int} {M : jm_Mem} {Q : jm_Q} (hz : z_g w h sl fo ba su) (ht : z_td 23 w h sl fo ba su M) (ho : z_o M) (hQ : ∀ M', z_C w h sl fo ba su M' → jm_fr [1, 2, 3, 4, 5, 6, 7, 8, 9, 10, 11, 12, 13, 14, 15] M M' → Q none M') : jm_cl 10 [jm_R 1, jm_R 23] M Q := by
  obtain ⟨t1, t2, t3, t4⟩ := ht
  refine sc_10_I0 (sc_76_T_I0 ⟨by omega, by omega, by omega, by omega, by omega, by omega, by omega, by omega, by omega, by omega, by omega, by omega, by omega, by omega, by omega, by omega, by omega, by omega, by omega, by omega, rfl, ?_⟩)
  have e3 : jm_cpy (M 24) (M 3) 0 0 36 = sl := z_cpy (fun v v0 v1 => (t3 v v0 v1).1) (fun v hv => by rw [(ho.1 v hv).1, z_g_sl hz hv])
  have e6 : jm_cpy (M 27) (M 6) 0 0 36 = su := z_cpy (fun v v0 v1 => (t3 v v0 v1).2) (fun v hv => by rw [(ho.1 v hv).2, (hz.2 v).2 hv])
  have e4 : jm_cpy (M 25) (M 4) 0 0 108 = fo := z_cpy (fun v v0 v1 => (t4 v v0 v1).1) (fun v hv => by rw [(ho.2 v hv).1]; exact ((hz.1.2.2 v hv).1).symm)
  have e5 : jm_cpy (M 26) (M 5) 0 0 108 = ba := z_cpy (fun v v0 v1 => (t4 v v0 v1).2) (fun v hv => by rw [(ho.2 v hv).2]; exact ((hz.1.2.2 v hv).2).symm)
  refine p_11 (by
    show g_ok (M 23 4) (M 23 5) (jm_cpy (M 24) (M 3) 0 0 36)
    rw [t1, t2, e3]
    exact hz.1.1) ?_
  intro M' hT hf
  refine ⟨rfl, hQ M' ⟨?_, ?_, ?_, ?_⟩ ?_⟩
  · have hT' : g_tb (M 23 4) (M 23 5) (jm_cpy (M 24) (M 3) 0 0 36) M' := hT
    rw [t1, t2, e3] at hT'
    exact hT'
  · rw [hf 4 (by decide)]; exact e4
  · rw [hf 5 (by decide)]; exact e5
  · rw [hf 6 (by decide)]; exact e6
  · refine jm_fr_tr ?_ (jm_fr_mo hf (by decide))
    exact jm_fr_tr (jm_fr_st (by decide)) (jm_fr_tr (jm_fr_st (by decide)) (jm_fr_tr (jm_fr_sr (by decide)) (jm_fr_tr (jm_fr_sr (by decide)) (jm_fr_tr (jm_fr_sr (by decide)) (jm_fr_sr (by decide))))))
theorem p_10_I1 {w h : Int} {sl fo ba su : Int → Int} {M : jm_Mem} {Q : jm_Q} (hz : z_g w h sl fo ba su) (ht : z_td 28 w h sl fo ba su M) (ho : z_o M) (hQ : ∀ M', z_C w h sl fo ba su M' → jm_fr [1, 2, 3, 4, 5, 6, 7, 8, 9, 10, 11, 12, 13, 14, 15] M M' → Q none M') : jm_cl 10 [jm_R 1, jm_R 28] M Q := by
  obtain ⟨t1, t2, t3, t4⟩ := ht
  refine sc_10_I1 (sc_76_T_I1 ⟨by omega, by omega, by omega, by omega, by omega, by omega, by omega, by omega, by omega, by omega, by omega, by omega, by omega, by omega, by omega, by omega, by omega, by omega, by omega, by omega, rfl, ?_⟩)
  have e3 : jm_cpy (M 29) (M 3) 0 0 36 = sl := z_cpy (fun v v0 v1 => (t3 v v0 v1).1) (fun v hv => by rw [(ho.1 v hv).1, z_g_sl hz hv])
  have e6 : jm_cpy (M 32) (M 6) 0 0 36 = su := z_cpy (fun v v0 v1 => (t3 v v0 v1).2) (fun v hv => by rw [(ho.1 v hv).2, (hz.2 v).2 hv])
  have e4 : jm_cpy (M 30) (M 4) 0 0 108 = fo := z_cpy (fun v v0 v1 => (t4 v v0 v1).1) (fun v hv => by rw [(ho.2 v hv).1]; exact ((hz.1.2.2 v hv).1).symm)
  have e5 : jm_cpy (M 31) (M 5) 0 0 108 = ba := z_cpy (fun v v0 v1 => (t4 v v0 v1).2) (fun v hv => by rw [(ho.2 v hv).2]; exact ((hz.1.2.2 v hv).2).symm)
  refine p_11 (by
    show g_ok (M 28 4) (M 28 5) (jm_cpy (M 29) (M 3) 0 0 36)
    rw [t1, t2, e3]
    exact hz.1.1) ?_
  intro M' hT hf
  refine ⟨rfl, hQ M' ⟨?_, ?_, ?_, ?_⟩ ?_⟩
  · have hT' : g_tb (M 28 4) (M 28 5) (jm_cpy (M 29) (M 3) 0 0 36) M' := hT
    rw [t1, t2, e3] at hT'
    exact hT'
  · rw [hf 4 (by decide)]; exact e4
  · rw [hf 5 (by decide)]; exact e5
  · rw [hf 6 (by decide)]; exact e6
  · refine jm_fr_tr ?_ (jm_fr_mo hf (by decide))
    exact jm_fr_tr (jm_fr_st (by decide)) (jm_fr_tr (jm_fr_st (by decide)) (jm_fr_tr (jm_fr_sr (by decide)) (jm_fr_tr (jm_fr_sr (by decide)) (jm_fr_tr (jm_fr_sr (by decide)) (jm_fr_sr (by decide))))))
theorem p_76_I0 {w h : Int} {sl fo ba su : Int → Int} {M : jm_Mem} {Q : jm_Q} (hC : z_C w h sl fo ba su M) (hQ : ∀ M', z_td 23 w h sl fo ba su M' → jm_fr [23, 24, 25, 26, 27] M M' → Q none M') : jm_cl 76 [jm_R 23, jm_R 2] M Q := by
  obtain ⟨h1, h2, h3, h4⟩ := hC
  refine sc_76_I0_T ⟨by omega, by omega, by omega, by omega, by omega, by omega, by omega, by omega, by omega, by omega, by omega, by omega, by omega, by omega, by omega, by omega, by omega, by omega, by omega, by omega, ?_⟩
  refine hQ _ ⟨h1.1, h1.2.1, fun v v0 v1 => ⟨?_, ?_⟩, fun e e0 e1 => ⟨?_, ?_⟩⟩ ?_
  · show jm_cpy (M 3) (M 24) 0 0 36 v = sl v
    rw [z_cpy_in v0 v1, h1.2.2.1]
  · show jm_cpy (M 6) (M 27) 0 0 36 v = su v
    rw [z_cpy_in v0 v1, h4]
  · show jm_cpy (M 4) (M 25) 0 0 108 e = fo e
    rw [z_cpy_in e0 e1, h2]
  · show jm_cpy (M 5) (M 26) 0 0 108 e = ba e
    rw [z_cpy_in e0 e1, h3]
  · exact jm_fr_tr (jm_fr_st (by decide)) (jm_fr_tr (jm_fr_st (by decide)) (jm_fr_tr (jm_fr_sr (by decide)) (jm_fr_tr (jm_fr_sr (by decide)) (jm_fr_tr (jm_fr_sr (by decide)) (jm_fr_sr (by decide))))))
theorem p_76_I1 {w h : Int} {sl fo ba su : Int → Int} {M : jm_Mem} {Q : jm_Q} (hC : z_C w h sl fo ba su M) (hQ : ∀ M', z_td 28 w h sl fo ba su M' → jm_fr [28, 29, 30, 31, 32] M M' → Q none M') : jm_cl 76 [jm_R 28, jm_R 2] M Q := by
  obtain ⟨h1, h2, h3, h4⟩ := hC
  refine sc_76_I1_T ⟨by omega, by omega, by omega, by omega, by omega, by omega, by omega, by omega, by omega, by omega, by omega, by omega, by omega, by omega, by omega, by omega, by omega, by omega, by omega, by omega, ?_⟩
  refine hQ _ ⟨h1.1, h1.2.1, fun v v0 v1 => ⟨?_, ?_⟩, fun e e0 e1 => ⟨?_, ?_⟩⟩ ?_
  · show jm_cpy (M 3) (M 29) 0 0 36 v = sl v
    rw [z_cpy_in v0 v1, h1.2.2.1]
  · show jm_cpy (M 6) (M 32) 0 0 36 v = su v
    rw [z_cpy_in v0 v1, h4]
  · show jm_cpy (M 4) (M 30) 0 0 108 e = fo e
    rw [z_cpy_in e0 e1, h2]
  · show jm_cpy (M 5) (M 31) 0 0 108 e = ba e
    rw [z_cpy_in e0 e1, h3]
  · exact jm_fr_tr (jm_fr_st (by decide)) (jm_fr_tr (jm_fr_st (by decide)) (jm_fr_tr (jm_fr_sr (by decide)) (jm_fr_tr (jm_fr_sr (by decide)) (jm_fr_tr (jm_fr_sr (by decide)) (jm_fr_sr (by decide))))))
theorem z_dr_td {w h : Int} {G : y_G} {M : jm_Mem} (hd : y_dr w h G M) : z_td 16 w h G.1 G.2.1 G.2.2 (fun _ => 0) M := ⟨hd.1, hd.2.1, fun v v0 v1 => ⟨hd.2.2.1 v v0 v1, hd.2.2.2.2 v v0 v1⟩, hd.2.2.2.1⟩
theorem z_g_0 {w h : Int} {G : y_G} (hG : y_gd w h G) : z_g w h G.1 G.2.1 G.2.2 (fun _ => 0) := ⟨hG, fun _ => ⟨⟨by show (-99 : Int) ≤ 0; omega, by show (0 : Int) ≤ 99; omega⟩, fun _ => rfl⟩⟩
theorem z_C_fr {w h : Int} {sl fo ba su : Int → Int} {cs : List Nat} {M M' : jm_Mem} (hf : jm_fr cs M M') (hc : ∀ c ∈ [1, 2, 3, 4, 5, 6, 7, 8, 9, 10, 11, 12, 13, 14, 15], c ∉ cs) (hC : z_C w h sl fo ba su M) : z_C w h sl fo ba su M' := by
  obtain ⟨h1, h2, h3, h4⟩ := hC
  refine ⟨g_tb_fr hf (fun c hm => hc c ((by decide : ∀ c ∈ [1, 2, 3, 7, 8, 9, 10, 11, 12, 13, 14, 15], c ∈ [1, 2, 3, 4, 5, 6, 7, 8, 9, 10, 11, 12, 13, 14, 15]) c hm)) h1, ?_, ?_, ?_⟩
  · rw [hf 4 (hc 4 (by decide))]; exact h2
  · rw [hf 5 (hc 5 (by decide))]; exact h3
  · rw [hf 6 (hc 6 (by decide))]; exact h4
/-- cells that a text or a grid may change in the class -/
abbrev z_cs : List Nat := [1, 2, 3, 4, 5, 6, 7, 8, 9, 10, 11, 12, 13, 14, 15, 16, 17, 18, 19, 20, 42, 65]
theorem z_fl {M M' : jm_Mem} (h : y_fl M M') : jm_fr z_cs M M' := fun c hc => h c (fun q => hc (by rw [q]; decide)) (fun q => hc (by rw [q]; decide)) (fun q => hc (by rw [q]; decide)) (fun q => hc (by rw [q]; decide)) (fun q => hc (by rw [q]; decide)) (fun q => hc (by rw [q]; decide))
theorem z_o_fr {cs : List Nat} {M M' : jm_Mem} (hf : jm_fr cs M M') (a : 3 ∉ cs) (b : 4 ∉ cs) (c : 5 ∉ cs) (d : 6 ∉ cs) (h : z_o M) : z_o M' := by
  unfold z_o
  rw [hf 3 a, hf 4 b, hf 5 c, hf 6 d]
  exact h
theorem p_84 {b : Int → Int} {m n : Int} {M : jm_Mem} {Q : jm_Q} (hb : M 66 = b) (hby : l_by b) (hm : M 65 1 = m) (m1 : m ≤ 600) (ho : z_o M) (hno : ¬ (0 ≤ n ∧ n ≤ m) → Q (some (jm_I (-1))) M) (hok : ∀ w h ls M', 0 ≤ n → n ≤ m → y_tx b n = .ok (w, h, ls) → jm_fr z_cs M M' → M' 65 1 = 0 → M' 42 4 = 0 → z_C w h (y_fo w h y_0 ls).1 (y_fo w h y_0 ls).2.1 (y_fo w h y_0 ls).2.2 (fun _ => 0) M' → Q (some (jm_I (ls.length : Int))) M') (her : ∀ F M', 0 ≤ n → n ≤ m → y_tx b n = .error F → jm_fr [16, 17, 18, 19, 20, 65] M M' → M' 65 1 = 0 → Q (some (jm_I (-2 - F))) M') : jm_cl 84 [jm_R 0, jm_I n] M Q := by
  refine sc_84 ⟨fun z => hno (by omega), fun z => ⟨fun y => hno (by omega), fun y => ?_⟩⟩
  have n0 : 0 ≤ n := by omega
  have n1 : n ≤ m := by omega
  refine p_63 hb hby n0 (by omega) ?_ ?_
  · intro w h ls M1 h1 f1 k1 d1
    obtain ⟨g1, g2, g3⟩ := y_tx_ok n0 h1
    have gd := y_fo_gd ls y_0 (y_0_gd g1) g3
    refine ⟨_, rfl, fun z => by omega, fun _ => p_10_Dr (z_g_0 gd) (z_dr_td d1) ?_ ?_⟩
    · unfold z_o
      rw [f1 3 (by decide) (by decide) (by decide) (by decide) (by decide) (by decide), f1 4 (by decide) (by decide) (by decide) (by decide) (by decide) (by decide), f1 5 (by decide) (by decide) (by decide) (by decide) (by decide) (by decide), f1 6 (by decide) (by decide) (by decide) (by decide) (by decide) (by decide)]
      exact ho
    · intro M2 C2 f2
      refine ⟨rfl, sc_53_S ⟨rfl, hok w h ls _ n0 n1 h1 ?_ ?_ rfl ?_⟩⟩
      · exact jm_fr_tr (z_fl f1) (jm_fr_tr (jm_fr_mo f2 (by decide)) (jm_fr_st (by decide)))
      · rw [jm_st_e, if_neg (by decide), f2 65 (by decide)]
        exact k1
      · exact z_C_fr (cs := [42]) (jm_fr_st (c := 42) (by decide)) (by decide) C2
  · intro F M1 h1 f1 k1
    have hF := y_tx_er n0 h1
    exact ⟨_, rfl, fun _ => her F M1 n0 n1 h1 (fun c hc => f1 c (fun q => hc (by rw [q]; decide)) (fun q => hc (by rw [q]; decide)) (fun q => hc (by rw [q]; decide)) (fun q => hc (by rw [q]; decide)) (fun q => hc (by rw [q]; decide)) (fun q => hc (by rw [q]; decide))) k1, fun z => by omega⟩
