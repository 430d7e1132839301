/-! TEXTS: the reference -/
/-- nothing is told outside of range -/
def z_p (M : jm_Mem) : Prop := (∀ v, ¬ (0 ≤ v ∧ v < 36) → M 68 v = 0 ∧ M 71 v = 0) ∧ ∀ e, ¬ (0 ≤ e ∧ e < 108) → M 69 e = 0 ∧ M 70 e = 0
theorem z_R_p {w h : Int} {sl fo ba su : Int → Int} {M : jm_Mem} (hz : z_g w h sl fo ba su) (hR : z_R w h sl fo ba su M) : z_p M := by
  obtain ⟨h1, h2, h3, h4⟩ := hR
  refine ⟨fun v hv => ⟨?_, ?_⟩, fun e he => ⟨?_, ?_⟩⟩
  · rw [h1.2.2]; exact z_g_sl hz hv
  · rw [h4]; exact (hz.2 v).2 hv
  · rw [h2]; exact (hz.1.2.2 e he).1
  · rw [h3]; exact (hz.1.2.2 e he).2
theorem p_120 {w h : Int} {M : jm_Mem} {Q : jm_Q} (hp : z_p M) (hQ : ∀ M', jm_fx [68, 69, 70, 71] [1, 2, 33] M M' → M' 67 33 = 0 → z_R w h y_0.1 y_0.2.1 y_0.2.2 (fun _ => 0) M' → Q none M') : jm_cl 120 [jm_R 67, jm_I w, jm_I h] M Q := by
  refine sc_120 ?_
  have B : ∀ e, e ≤ 108 → 0 ≤ e → ∀ M1, jm_fx [68, 69, 70, 71] [1, 2, 33] M M1 → M1 67 1 = w → M1 67 2 = h → (∀ v, M1 68 v = 0 ∧ M1 71 v = 0) → (∀ i, i < e ∨ 108 ≤ i → M1 69 i = 0 ∧ M1 70 i = 0) → jm_run 120 (25, [some (jm_R 67), some (jm_I w), some (jm_I h), some (jm_I e)], [], M1) Q := by
    refine jm_dn ?_
    intro e he ih e0 M1 f1 k1 k2 k3 k4
    refine sg_120_25 ⟨fun lt => ⟨e0, lt, e0, lt, ⟨by omega, by omega⟩, ih lt (by omega) _ (jm_fx_tr f1 (jm_fx_tr (jm_fx_st (by decide) (by decide)) (jm_fx_st (by decide) (by decide)))) k1 k2 k3 (fun i hi => ?_)⟩, fun ge => ⟨by omega, by omega, hQ _ (jm_fx_tr f1 (jm_fx_sx (by decide))) rfl ⟨⟨k1, k2, ?_⟩, ?_, ?_, ?_⟩⟩⟩
    · by_cases q : i = e
      · rw [q]
        exact ⟨jm_up_s .., jm_up_s ..⟩
      · have := k4 i (by omega)
        refine ⟨?_, ?_⟩
        · show jm_up (M1 69) e 0 i = 0
          rw [jm_up_o q]; exact this.1
        · show jm_up (M1 70) e 0 i = 0
          rw [jm_up_o q]; exact this.2
    · funext v; exact (k3 v).1
    · funext i; exact (k4 i (by omega)).1
    · funext i; exact (k4 i (by omega)).2
    · funext v; exact (k3 v).2
  have A : ∀ v, v ≤ 36 → 0 ≤ v → ∀ M1, jm_fx [68, 69, 70, 71] [1, 2, 33] M M1 → M1 67 1 = w → M1 67 2 = h → (∀ i, i < v ∨ 36 ≤ i → M1 68 i = 0 ∧ M1 71 i = 0) → M1 69 = M 69 → M1 70 = M 70 → jm_run 120 (8, [some (jm_R 67), some (jm_I w), some (jm_I h), some (jm_I v)], [], M1) Q := by
    refine jm_dn ?_
    intro v hv ih v0 M1 f1 k1 k2 k3 k4 k5
    refine sg_120_8 ⟨fun lt => ⟨v0, lt, v0, lt, ⟨by omega, by omega⟩, ih lt (by omega) _ (jm_fx_tr f1 (jm_fx_tr (jm_fx_st (by decide) (by decide)) (jm_fx_st (by decide) (by decide)))) k1 k2 (fun i hi => ?_) k4 k5⟩, fun ge => B 0 (by omega) (by omega) M1 f1 k1 k2 (fun v => k3 v (by omega)) (fun i hi => ?_)⟩
    · by_cases q : i = v
      · rw [q]
        exact ⟨jm_up_s .., jm_up_s ..⟩
      · have := k3 i (by omega)
        refine ⟨?_, ?_⟩
        · show jm_up (M1 68) v 0 i = 0
          rw [jm_up_o q]; exact this.1
        · show jm_up (M1 71) v 0 i = 0
          rw [jm_up_o q]; exact this.2
    · rw [k4, k5]
      exact hp.2 i (by omega)
  exact A 0 (by omega) (by omega) _ (jm_fx_tr (jm_fx_sx (by decide)) (jm_fx_sx (by decide))) rfl rfl (fun i hi => hp.1 i (by omega)) rfl rfl
def y_at (f : Int → Int) (L : Int) (ln : y_L) : Prop := f (5 * L) = ln.1 ∧ (ln.1 ≠ 4 → f (5 * L + 1) = ln.2.1 ∧ f (5 * L + 2) = ln.2.2.1) ∧ f (5 * L + 3) = ln.2.2.2.1 ∧ f (5 * L + 4) = ln.2.2.2.2
def y_ts (f : Int → Int) : Int → List y_L → Prop
  | _, [] => True
  | L, ln :: ls => y_at f L ln ∧ y_ts f (L + 1) ls
/-- the lines that are told, as a grid -/
def y_RG (w h : Int) (G : y_G) (M : jm_Mem) : Prop := r_X w h G.1 M ∧ M 69 = G.2.1 ∧ M 70 = G.2.2
theorem z_ic {P R : Prop} [Decidable P] [Decidable R] {a b : Int} (h : P ↔ R) (_ : a = a) (_ : b = b) : (if P then a else b) = (if R then a else b) := by
  by_cases q : P
  · rw [if_pos q, if_pos (h.1 q)]
  · rw [if_neg q, if_neg (fun r => q (h.2 r))]
theorem p_146 {w h j : Int} {G : y_G} {ln : y_L} {M : jm_Mem} {Q : jm_Q} (hG : y_gd w h G) (hl : y_ln w h ln) (hR : y_RG w h G M) (j0 : 0 ≤ j) (j1 : j ≤ 150) (htb : y_tb M) (hat : y_at (M 73) j ln) (hQ : ∀ M', jm_fx [68, 69, 70] [] M M' → y_RG w h (y_ap w h ln G) M' → Q none M') : jm_cl 146 [jm_R 67, jm_I (5 * j)] M Q := by
  obtain ⟨k, x, y, f, g⟩ := ln
  obtain ⟨a1, a2, a3, a4⟩ := hat
  obtain ⟨l1, l2, l3, l4⟩ := hl
  dsimp only at a1 a2 a3 a4 l1 l2 l3 l4
  have hsd := hG.1.1
  have hm := g_mul hsd
  obtain ⟨hcw, hch⟩ := g_cases hsd
  have h6 : h ≤ 6 := hsd.2.2.2
  obtain ⟨r1, r2, r3⟩ := hR
  have b1 := htb.1 (5 * j + 1)
  have b2 := htb.1 (5 * j + 2)
  generalize hp : M 73 (5 * j + 1) = p at *
  generalize hq : M 73 (5 * j + 2) = q at *
  have bw : -600 ≤ q * w ∧ q * w ≤ 600 := by
    clear hsd hm hch r1 r2 r3 l2 a2 hQ hG
    rcases hcw with rfl | rfl | rfl | rfl | rfl <;> omega
  have nb : k ≠ 4 → q * w + p = y * w + x ∧ 0 ≤ y * w + x ∧ y * w + x < 36 := by
    intro k4
    obtain ⟨e1, e2⟩ := a2 k4
    obtain ⟨x0, x1, y0, y1⟩ := l2 k4
    refine ⟨by rw [e1, e2], ?_, ?_⟩
    · have := Int.mul_nonneg y0 (show 0 ≤ w from by omega)
      omega
    · clear hsd hm hch r1 r2 r3 l2 a2 hQ hG bw
      have y5 : y ≤ 5 := by
        split at y1 <;> omega
      have x5 : x ≤ w - 1 := by
        split at x1 <;> omega
      rcases hcw with rfl | rfl | rfl | rfl | rfl <;> omega
  have main : ∀ Ms, jm_fx [68, 69, 70] [] M Ms → r_X w h (y_sl w k x y G.1) Ms → Ms 69 = G.2.1 → Ms 70 = G.2.2 → jm_run 146 (40, [some (jm_R 67), some (jm_I (5 * j)), some (jm_I (q * w + p)), some (jm_I k), some (jm_I 0), none], [], Ms) Q := by
    intro Ms fs rs s69 s70
    generalize hsl : y_sl w k x y G.1 = sl' at *
    have L : ∀ e, e ≤ 108 → 0 ≤ e → ∀ o5 M1, jm_fx [69, 70] [] Ms M1 → (∀ i, M1 69 i = if y_on w h k x y sl' i ∧ i < e then f else G.2.1 i) → (∀ i, M1 70 i = if y_on w h k x y sl' i ∧ i < e then g else G.2.2 i) → jm_run 146 (40, [some (jm_R 67), some (jm_I (5 * j)), some (jm_I (q * w + p)), some (jm_I k), some (jm_I e), o5], [], M1) Q := by
      refine jm_dn ?_
      intro e he ih e0 o5 M1 f1 k1 k2
      have fin : e < 108 → ∀ s0 : Int, (s0 = 0 ↔ ¬ y_on w h k x y sl' e) → jm_run 146 (65, [some (jm_R 67), some (jm_I (5 * j)), some (jm_I (q * w + p)), some (jm_I k), some (jm_I e), o5], [jm_I s0], M1) Q := by
        intro lt s0 hs0
        have t3 : M1 73 (5 * j + 3) = f := by rw [f1.1 73 (by decide) (by decide), fs.1 73 (by decide) (by decide)]; exact a3
        have t4 : M1 73 (5 * j + 4) = g := by rw [f1.1 73 (by decide) (by decide), fs.1 73 (by decide) (by decide)]; exact a4
        refine sg_146_65 ⟨fun z => ⟨⟨by omega, by omega⟩, ih lt (by omega) _ M1 f1 (fun i => ?_) (fun i => ?_)⟩, fun z => ⟨⟨by omega, by omega⟩, by omega, by omega, e0, lt, ⟨by omega, by omega⟩, by omega, by omega, e0, lt, ⟨by omega, by omega⟩, ih lt (by omega) _ _ (jm_fx_tr f1 (jm_fx_tr (jm_fx_st (by decide) (by decide)) (jm_fx_st (by decide) (by decide)))) (fun i => ?_) (fun i => ?_)⟩⟩
        · rw [k1 i]
          have zz := hs0.1 z
          by_cases qq : i = e
          · rw [if_neg (fun h => absurd h.2 (by omega)), if_neg (fun h => zz (by rw [← qq]; exact h.1))]
          · exact z_ic (and_congr_right (fun _ => by omega)) rfl rfl
        · rw [k2 i]
          have zz := hs0.1 z
          by_cases qq : i = e
          · rw [if_neg (fun h => absurd h.2 (by omega)), if_neg (fun h => zz (by rw [← qq]; exact h.1))]
          · exact z_ic (and_congr_right (fun _ => by omega)) rfl rfl
        · have zz : y_on w h k x y sl' e := Classical.byContradiction (fun h => z (hs0.2 h))
          show jm_up (M1 69) e (M1 73 (5 * j + 3)) i = _
          by_cases qq : i = e
          · rw [qq, jm_up_s, t3, if_pos ⟨zz, by omega⟩]
          · rw [jm_up_o qq, k1 i]
            exact z_ic (and_congr_right (fun _ => by omega)) rfl rfl
        · have zz : y_on w h k x y sl' e := Classical.byContradiction (fun h => z (hs0.2 h))
          show jm_up (M1 70) e (M1 73 (5 * j + 4)) i = _
          by_cases qq : i = e
          · rw [qq, jm_up_s, t4, if_pos ⟨zz, by omega⟩]
          · rw [jm_up_o qq, k2 i]
            exact z_ic (and_congr_right (fun _ => by omega)) rfl rfl
      have rs1 : r_X w h sl' M1 := r_X_fx f1 (by decide) (by decide) (by decide) rs
      refine sg_146_40 ⟨fun lt => ⟨fun k4 => ?_, fun k4 => ?_⟩, fun ge => ?_⟩
      · rw [r_124 hsd rs1]
        refine ⟨_, rfl, fin lt _ ?_⟩
        rw [jm_B0]
        show ¬ _ ↔ ¬ (if k = 4 then g_E w h sl' e else _)
        rw [if_pos k4]
      · obtain ⟨n1, n2, n3⟩ := nb k4
        have on : y_on w h k x y sl' e ↔ e = 3 * (q * w + p) + (if k < 2 then k else 2) := by
          show (if k = 4 then g_E w h sl' e else _) ↔ _
          rw [if_neg k4, n1]
        refine ⟨⟨by omega, by omega⟩, fun k2' => ⟨⟨by omega, by omega⟩, fun z => fin lt 1 ?_, fun z => fin lt 0 ?_⟩, fun k2' => ⟨⟨by omega, by omega⟩, fun z => fin lt 1 ?_, fun z => fin lt 0 ?_⟩⟩
        · rw [on, if_pos k2']; omega
        · rw [on, if_pos k2']; omega
        · rw [on, if_neg k2']; omega
        · rw [on, if_neg k2']; omega
      · have lt : ∀ i, y_on w h k x y sl' i → i < e := by
          intro i hi
          by_cases k4 : k = 4
          · have hi' : (if k = 4 then g_E w h sl' i else i = 3 * (y * w + x) + (if k < 2 then k else 2)) := hi
            rw [if_pos k4] at hi'
            have := g_Eb hsd hi'
            omega
          · have hi' : (if k = 4 then g_E w h sl' i else i = 3 * (y * w + x) + (if k < 2 then k else 2)) := hi
            rw [if_neg k4] at hi'
            obtain ⟨n1, n2, n3⟩ := nb k4
            split at hi' <;> omega
        refine hQ M1 (jm_fx_tr fs (jm_fx_mo f1 (by decide) (by decide))) ⟨?_, ?_, ?_⟩
        · show r_X w h (y_sl w k x y G.1) M1
          rw [hsl]; exact rs1
        · show M1 69 = y_up w h k x y (y_sl w k x y G.1) f G.2.1
          rw [hsl]
          funext i
          rw [k1 i]
          exact z_ic ⟨fun h => h.1, fun h => ⟨h, lt i h⟩⟩ rfl rfl
        · show M1 70 = y_up w h k x y (y_sl w k x y G.1) g G.2.2
          rw [hsl]
          funext i
          rw [k2 i]
          exact z_ic ⟨fun h => h.1, fun h => ⟨h, lt i h⟩⟩ rfl rfl
    refine L 0 (by omega) (by omega) none Ms (jm_fx_rfl _ _ _) (fun i => ?_) (fun i => ?_)
    · rw [s69]
      by_cases qq : y_on w h k x y sl' i ∧ i < 0
      · exfalso
        have hi' : (if k = 4 then g_E w h sl' i else i = 3 * (y * w + x) + (if k < 2 then k else 2)) := qq.1
        by_cases k4 : k = 4
        · rw [if_pos k4] at hi'
          have := g_Eb hsd hi'
          omega
        · rw [if_neg k4] at hi'
          obtain ⟨n1, n2, n3⟩ := nb k4
          split at hi' <;> omega
      · rw [if_neg qq]
    · rw [s70]
      by_cases qq : y_on w h k x y sl' i ∧ i < 0
      · exfalso
        have hi' : (if k = 4 then g_E w h sl' i else i = 3 * (y * w + x) + (if k < 2 then k else 2)) := qq.1
        by_cases k4 : k = 4
        · rw [if_pos k4] at hi'
          have := g_Eb hsd hi'
          omega
        · rw [if_neg k4] at hi'
          obtain ⟨n1, n2, n3⟩ := nb k4
          split at hi' <;> omega
      · rw [if_neg qq]
  refine sc_146 ?_
  rw [hp, hq, a1, r1.1]
  have mk : ∀ v, k ≠ 4 → y_sl w k x y G.1 = jm_up G.1 (y * w + x) v → r_X w h (y_sl w k x y G.1) (jm_st M 68 (q * w + p) v) := by
    intro v k4 e
    refine ⟨r1.1, r1.2.1, ?_⟩
    rw [e, (nb k4).1, jm_st_e, if_pos rfl, r1.2.2]
  have two : k = 2 → jm_run 146 (40, [some (jm_R 67), some (jm_I (5 * j)), some (jm_I (q * w + p)), some (jm_I k), some (jm_I 0), none], [], jm_st M 68 (q * w + p) 1) Q := fun k2 => main _ (jm_fx_st (by decide) (by decide)) (mk 1 (by omega) (by unfold y_sl; rw [if_pos k2])) r2 r3
  have three : k = 3 → jm_run 146 (40, [some (jm_R 67), some (jm_I (5 * j)), some (jm_I (q * w + p)), some (jm_I k), some (jm_I 0), none], [], jm_st M 68 (q * w + p) 2) Q := fun k2 => main _ (jm_fx_st (by decide) (by decide)) (mk 2 (by omega) (by unfold y_sl; rw [if_neg (by omega), if_pos k2])) r2 r3
  have nn : k ≠ 4 → 0 ≤ q * w + p ∧ q * w + p < 36 := fun k4 => by
    rw [(nb k4).1]; exact (nb k4).2
  refine ⟨⟨by omega, by omega⟩, by omega, by omega, ⟨by omega, by omega⟩, ⟨by omega, by omega⟩, by omega, by omega, ⟨by omega, by omega⟩, by omega, by omega, fun k2 => ⟨fun _ => ⟨(nn (by omega)).1, (nn (by omega)).2, two k2⟩, fun z => absurd k2 z⟩, fun k2 => ⟨fun k3 => ⟨fun z => absurd z k2, fun _ => ⟨(nn (by omega)).1, (nn (by omega)).2, three k3⟩⟩, fun k3 => main M (jm_fx_rfl _ _ _) ?_ r2 r3⟩⟩
  unfold y_sl
  rw [if_neg k2, if_neg k3]
  exact r1
theorem y_tb_fx {cs : List Nat} {is : List Int} {M M' : jm_Mem} (hf : jm_fx cs is M M') (h1 : 73 ∉ cs) (h2 : 20 ∉ is) (h : y_tb M) : y_tb M' := by
  unfold y_tb
  rw [hf.1 73 h1 (by decide), hf.2 20 h2]
  exact h
theorem p_147_105 {w h x1 x2 : Int} {Q : jm_Q} : ∀ (ls : List y_L) (L : Int) (G : y_G) (M : jm_Mem), y_ts (M 73) L ls → M 67 17 = L + (ls.length : Int) → (∀ ln ∈ ls, y_ln w h ln) → 0 ≤ L → L + (ls.length : Int) ≤ 150 → y_gd w h G → y_RG w h G M → y_tb M → (∀ M', jm_fx [68, 69, 70] [] M M' → y_RG w h (y_fo w h G ls) M' → Q (some (jm_I (M 67 17))) M') → jm_run 147 (105, [some (jm_R 67), some (jm_I x1), some (jm_I x2), some (jm_I L)], [], M) Q
  | [], L, G, M, ht, h17, hl, L0, L1, hG, hR, htb, hQ => by
    rw [List.length_nil] at h17
    exact sg_147_105 ⟨fun z => by omega, fun _ => hQ M (jm_fx_rfl _ _ _) hR⟩
  | ln :: ls, L, G, M, ht, h17, hl, L0, L1, hG, hR, htb, hQ => by
    rw [List.length_cons] at h17 L1
    refine sg_147_105 ⟨fun _ => ⟨⟨by omega, by omega⟩, p_146 hG (hl ln (List.mem_cons_self ..)) hR L0 (by omega) htb ht.1 ?_⟩, fun z => by omega⟩
    intro M1 f1 R1
    have e17 : M1 67 17 = M 67 17 := f1.2 17 (by decide)
    refine ⟨rfl, ⟨by omega, by omega⟩, p_147_105 ls (L + 1) (y_ap w h ln G) M1 (by rw [f1.1 73 (by decide) (by decide)]; exact ht.2) (by omega) (fun l h => hl l (List.mem_cons_of_mem _ h)) (by omega) (by omega) (y_ln_gd hG (hl ln (List.mem_cons_self ..))) R1 (y_tb_fx f1 (by decide) (by decide) htb) ?_⟩
    intro M2 f2 R2
    rw [e17]
    exact hQ M2 (jm_fx_tr f1 f2) R2
