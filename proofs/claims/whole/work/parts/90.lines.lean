/-! TEXTS: the class's lines -/
theorem e_81_Dr {M : jm_Mem} (hg : g_sd (M 16 4) (M 16 5)) (k : Int) (Q : jm_Q) : jm_cl 81 [jm_R 16, jm_I k] M Q ↔ Q (some (jm_I (M 16 4 - (if k = 1 then 1 else 2)))) M := by
  refine jm_cl_e (fun Q h => sc_81_Dr ?_) Q
  obtain ⟨g1, g2, g3, g4⟩ := hg
  refine ⟨fun a => ⟨⟨by omega, by omega⟩, ?_⟩, fun a => ⟨⟨by omega, by omega⟩, ?_⟩⟩
  · rwa [if_pos a] at h
  · rwa [if_neg a] at h
theorem e_82_Dr {M : jm_Mem} (hg : g_sd (M 16 4) (M 16 5)) (k : Int) (Q : jm_Q) : jm_cl 82 [jm_R 16, jm_I k] M Q ↔ Q (some (jm_I (M 16 5 - (if k = 0 then 1 else 2)))) M := by
  refine jm_cl_e (fun Q h => sc_82_Dr ?_) Q
  obtain ⟨g1, g2, g3, g4⟩ := hg
  refine ⟨fun a => ⟨⟨by omega, by omega⟩, ?_⟩, fun a => ⟨⟨by omega, by omega⟩, ?_⟩⟩
  · rwa [if_pos a] at h
  · rwa [if_neg a] at h
theorem e_80_Dr {M : jm_Mem} (hg : g_sd (M 16 4) (M 16 5)) (k x y : Int) (Q : jm_Q) : jm_cl 80 [jm_R 16, jm_I k, jm_I x, jm_I y] M Q ↔ Q (some (jm_I (jm_B (0 ≤ x ∧ x ≤ M 16 4 - (if k = 1 then 1 else 2) ∧ 0 ≤ y ∧ y ≤ M 16 5 - (if k = 0 then 1 else 2))))) M := by
  refine jm_cl_e (fun Q h => sc_80_Dr ?_) Q
  refine ⟨fun a => ⟨by omega, by omega, ?_⟩, fun a => ?_⟩
  · rwa [jm_Bf (by omega)] at h
  · rw [e_81_Dr hg]
    refine ⟨_, rfl, fun b => ⟨by omega, by omega, ?_⟩, fun b => ⟨fun c => ⟨by omega, by omega, ?_⟩, fun c => ?_⟩⟩
    · rwa [jm_Bf (by omega)] at h
    · rwa [jm_Bf (by omega)] at h
    · rw [e_82_Dr hg]
      refine ⟨_, rfl, fun d => ⟨by omega, by omega, ?_⟩, fun d => ⟨by omega, by omega, ?_⟩⟩
      · rwa [jm_Bf (by omega)] at h
      · rwa [jm_Bt (by omega)] at h
/-- edges below c bear f and g -/
def y_al (w h : Int) (sl : Int → Int) (f g c : Int) (M M1 : jm_Mem) : Prop := jm_fr [18, 19] M M1 ∧ ∀ e, 0 ≤ e → e < 108 → M1 18 e = (if g_E w h sl e ∧ e < c then f else M 18 e) ∧ M1 19 e = (if g_E w h sl e ∧ e < c then g else M 19 e)
theorem y_al_no {w h : Int} {sl : Int → Int} {f g c : Int} {M M1 : jm_Mem} (hn : ¬ g_E w h sl c) (hA : y_al w h sl f g c M M1) : y_al w h sl f g (c + 1) M M1 := by
  refine ⟨hA.1, fun e e0 e1 => ?_⟩
  obtain ⟨a, b⟩ := hA.2 e e0 e1
  have hi : (g_E w h sl e ∧ e < c) ↔ (g_E w h sl e ∧ e < c + 1) := by
    refine ⟨fun z => ⟨z.1, by omega⟩, fun z => ⟨z.1, ?_⟩⟩
    have : e ≠ c := fun q => hn (by rw [← q]; exact z.1)
    omega
  by_cases z : g_E w h sl e ∧ e < c
  · rw [if_pos z] at a b
    rw [if_pos (hi.1 z), if_pos (hi.1 z)]; exact ⟨a, b⟩
  · rw [if_neg z] at a b
    rw [if_neg (fun q => z (hi.2 q)), if_neg (fun q => z (hi.2 q))]; exact ⟨a, b⟩
theorem y_al_ye {w h : Int} {sl : Int → Int} {f g c : Int} {M M1 : jm_Mem} (hn : g_E w h sl c) (hA : y_al w h sl f g c M M1) : y_al w h sl f g (c + 1) M (jm_st (jm_st M1 18 c f) 19 c g) := by
  refine ⟨jm_fr_tr hA.1 (jm_fr_tr (jm_fr_st (by decide)) (jm_fr_st (by decide))), fun e e0 e1 => ?_⟩
  obtain ⟨a, b⟩ := hA.2 e e0 e1
  simp only [jm_st_e, Nat.reduceEqDiff, reduceIte]
  by_cases q : e = c
  · rw [q, jm_up_s, jm_up_s, if_pos ⟨hn, by omega⟩, if_pos ⟨hn, by omega⟩]
    exact ⟨rfl, rfl⟩
  · rw [jm_up_o q, jm_up_o q]
    have hi : (g_E w h sl e ∧ e < c) ↔ (g_E w h sl e ∧ e < c + 1) := ⟨fun z => ⟨z.1, by omega⟩, fun z => ⟨z.1, by omega⟩⟩
    by_cases z : g_E w h sl e ∧ e < c
    · rw [if_pos z] at a b
      rw [if_pos (hi.1 z), if_pos (hi.1 z)]; exact ⟨a, b⟩
    · rw [if_neg z] at a b
      rw [if_neg (fun q => z (hi.2 q)), if_neg (fun q => z (hi.2 q))]; exact ⟨a, b⟩
theorem p_67 {w h : Int} {sl : Int → Int} {f g x y : Int} {M M1 : jm_Mem} {Q : jm_Q} (hg : g_ok w h sl) (hw : M 16 4 = w) (hh : M 16 5 = h) (hs : ∀ v, 0 ≤ v → v < 36 → M 17 v = sl v) (x0 : 0 ≤ x) (x1 : x < w) (y0 : 0 ≤ y) (y1 : y < h) (hA : y_al w h sl f g (3 * (y * w + x)) M M1) (hQ : ∀ M', y_al w h sl f g (3 * (y * w + (x + 1))) M M' → Q none M') : jm_cl 67 [jm_R 65, jm_R 16, jm_I x, jm_I y, jm_I f, jm_I g] M1 Q := by
  obtain ⟨hcw, hch⟩ := g_cases hg.1
  have hn : (y * w + x) % w = x ∧ (y * w + x) / w = y ∧ 0 ≤ y * w + x ∧ y * w + x < w * h ∧ 0 ≤ y * w := by
    rcases hcw with rfl | rfl | rfl | rfl | rfl <;> omega
  obtain ⟨hx, hy, n0, n1, yw⟩ := hn
  have hnd : g_nd w h (y * w + x) := ⟨n0, n1⟩
  have hm := g_mul hg.1
  obtain ⟨g1, g2, g3, g4⟩ := id hg.1
  have hQ : ∀ M', y_al w h sl f g (3 * (y * w + x) + 2 + 1) M M' → Q none M' := by
    intro M' hM'
    refine hQ M' ?_
    rw [show 3 * (y * w + (x + 1)) = 3 * (y * w + x) + 2 + 1 by omega]
    exact hM'
  have cw : ∀ {M2}, jm_fr [18, 19] M M2 → M2 16 4 = w ∧ M2 16 5 = h ∧ (∀ v, 0 ≤ v → v < 36 → M2 17 v = sl v) := by
    intro M2 hf
    rw [hf 16 (by decide), hf 17 (by decide)]
    exact ⟨hw, hh, hs⟩
  have m4 := (cw hA.1).1
  refine sc_67 ?_
  rw [m4]
  generalize hgn : y * w + x = m at *
  have T : ∀ M2, y_al w h sl f g (3 * m + 2) M M2 → jm_run 67 (9, [some (jm_R 65), some (jm_R 16), some (jm_I x), some (jm_I y), some (jm_I f), some (jm_I g), some (jm_I m), some (jm_I (0 + 1 + 1))], [], M2) Q := by
    intro M2 hA2
    obtain ⟨c1, c2, c3⟩ := cw hA2.1
    have fin : ∀ M3, y_al w h sl f g (3 * m + 2 + 1) M M3 → jm_run 67 (9, [some (jm_R 65), some (jm_R 16), some (jm_I x), some (jm_I y), some (jm_I f), some (jm_I g), some (jm_I m), some (jm_I (0 + 1 + 1 + 1))], [], M3) Q := fun M3 h3 => sg_67_9 ⟨fun z => by omega, fun _ => hQ M3 h3⟩
    refine sg_67_9 ⟨fun _ => ?_, fun z => by omega⟩
    rw [e_80_Dr (by rw [c1, c2]; exact hg.1), c1, c2, if_neg (by omega), if_neg (by omega), c3 m n0 (by omega)]
    have hsl := hg.2 m
    refine ⟨_, rfl, fun z => ⟨⟨by omega, by omega⟩, fin M2 (y_al_no (fun q => ?_) hA2)⟩, fun z => ⟨fun u => by omega, fun _ => ⟨n0, by omega, fun u => ⟨⟨by omega, by omega⟩, fin M2 (y_al_no (fun q => ?_) hA2)⟩, fun u => ⟨⟨by omega, by omega⟩, ⟨by omega, by omega⟩, ?_⟩⟩⟩⟩
    · rw [g_E2] at q
      have := jm_B0.1 z
      omega
    · rw [g_E2] at q
      omega
    · have z := jm_Bn.1 z
      have hE : g_E w h sl (3 * m + 2) := by rw [g_E2]; omega
      rw [show 3 * m + (0 + 1 + 1) = 3 * m + 2 by omega]
      refine sc_77_Dr ⟨by omega, by omega, by omega, by omega, rfl, ⟨by omega, by omega⟩, fin _ (y_al_ye hE hA2)⟩
  have S : ∀ M2, y_al w h sl f g (3 * m + 1) M M2 → jm_run 67 (9, [some (jm_R 65), some (jm_R 16), some (jm_I x), some (jm_I y), some (jm_I f), some (jm_I g), some (jm_I m), some (jm_I (0 + 1))], [], M2) Q := by
    intro M2 hA2
    obtain ⟨c1, c2, c3⟩ := cw hA2.1
    refine sg_67_9 ⟨fun _ => ?_, fun z => by omega⟩
    rw [e_80_Dr (by rw [c1, c2]; exact hg.1), c1, c2, if_pos (by omega), if_neg (by omega)]
    refine ⟨_, rfl, fun z => ⟨⟨by omega, by omega⟩, T M2 ?_⟩, fun z => ⟨fun u => ⟨⟨by omega, by omega⟩, ⟨by omega, by omega⟩, ?_⟩, fun u => by omega⟩⟩
    · rw [show 3 * m + 2 = 3 * m + 1 + 1 by omega]
      refine y_al_no (fun q => ?_) hA2
      rw [g_E1] at q
      have := jm_B0.1 z
      omega
    · have z := jm_Bn.1 z
      have hE : g_E w h sl (3 * m + 1) := by rw [g_E1]; omega
      rw [show 3 * m + (0 + 1) = 3 * m + 1 by omega]
      refine sc_77_Dr ⟨by omega, by omega, by omega, by omega, rfl, ⟨by omega, by omega⟩, T _ ?_⟩
      rw [show 3 * m + 2 = 3 * m + 1 + 1 by omega]
      exact y_al_ye hE hA2
  refine ⟨⟨by omega, by omega⟩, ⟨by omega, by omega⟩, sg_67_9 ⟨fun _ => ?_, fun z => by omega⟩⟩
  obtain ⟨c1, c2, c3⟩ := cw hA.1
  rw [e_80_Dr (by rw [c1, c2]; exact hg.1), c1, c2, if_neg (by omega), if_pos (by omega)]
  refine ⟨_, rfl, fun z => ⟨⟨by omega, by omega⟩, S M1 (y_al_no (fun q => ?_) hA)⟩, fun z => ⟨fun u => ⟨⟨by omega, by omega⟩, ⟨by omega, by omega⟩, ?_⟩, fun u => by omega⟩⟩
  · rw [g_E0] at q
    have := jm_B0.1 z
    omega
  · have z := jm_Bn.1 z
    have hE : g_E w h sl (3 * m) := by rw [g_E0]; omega
    rw [Int.add_zero]
    exact sc_77_Dr ⟨by omega, by omega, by omega, by omega, rfl, ⟨by omega, by omega⟩, S _ (y_al_ye hE hA)⟩
theorem p_66_22 {w h : Int} {sl : Int → Int} {f g : Int} {M : jm_Mem} {Q : jm_Q} (hg : g_ok w h sl) (hw : M 16 4 = w) (hh : M 16 5 = h) (hs : ∀ v, 0 ≤ v → v < 36 → M 17 v = sl v) (h6 : M 65 6 = g) (hQ : ∀ M', y_al w h sl f g 108 M M' → Q (some (jm_I 1)) M') : jm_run 66 (22, [some (jm_R 65), some (jm_R 16), some (jm_I f), some (jm_I 0), none], [], M) Q := by
  obtain ⟨g1, g2, g3, g4⟩ := id hg.1
  have L : ∀ y, y ≤ h → 0 ≤ y → ∀ (o4 : Option jm_V) (M' : jm_Mem), y_al w h sl f g (3 * (y * w)) M M' → jm_run 66 (22, [some (jm_R 65), some (jm_R 16), some (jm_I f), some (jm_I y), o4], [], M') Q := by
    refine jm_dn ?_
    intro y hy ih y0 o4 M' hM'
    refine sg_66_22 ?_
    rw [hM'.1 16 (by decide), hh]
    refine ⟨fun a => ?_, fun a => ⟨by omega, by omega, hQ M' ?_⟩⟩
    · have L2 : ∀ x, x ≤ w → 0 ≤ x → ∀ (M' : jm_Mem), y_al w h sl f g (3 * (y * w + x)) M M' → jm_run 66 (28, [some (jm_R 65), some (jm_R 16), some (jm_I f), some (jm_I y), some (jm_I x)], [], M') Q := by
        refine jm_dn ?_
        intro x hx ih2 x0 M1 hM1
        refine sg_66_28 ?_
        rw [hM1.1 16 (by decide), hw, hM1.1 65 (by decide), h6]
        refine ⟨fun b => p_67 hg hw hh hs x0 b y0 a hM1 (fun M2 hM2 => ⟨rfl, ⟨by omega, by omega⟩, ih2 b (by omega) M2 hM2⟩), fun b => ⟨⟨by omega, by omega⟩, ih a (by omega) _ _ ?_⟩⟩
        rw [show 3 * ((y + 1) * w) = 3 * (y * w + x) by rw [Int.add_mul]; omega]
        exact hM1
      refine L2 0 (by omega) (by omega) M' ?_
      rw [Int.add_zero]
      exact hM'
    · have hy' : y = h := by omega
      subst hy'
      refine ⟨hM'.1, fun e e0 e1 => ?_⟩
      obtain ⟨a1, a2⟩ := hM'.2 e e0 e1
      have hi : (g_E w y sl e ∧ e < 3 * (y * w)) ↔ (g_E w y sl e ∧ e < 108) := by
        refine ⟨fun z => ⟨z.1, e1⟩, fun z => ⟨z.1, ?_⟩⟩
        have h1 := z.1.2.1
        rw [Int.mul_comm y w]
        omega
      by_cases z : g_E w y sl e ∧ e < 3 * (y * w)
      · rw [if_pos z] at a1 a2
        rw [if_pos (hi.1 z), if_pos (hi.1 z)]; exact ⟨a1, a2⟩
      · rw [if_neg z] at a1 a2
        rw [if_neg (fun q => z (hi.2 q)), if_neg (fun q => z (hi.2 q))]; exact ⟨a1, a2⟩
  refine L 0 (by omega) (by omega) none M ⟨jm_fr_rfl _ _, fun e e0 e1 => ?_⟩
  rw [if_neg (by omega), if_neg (by omega)]
  exact ⟨rfl, rfl⟩
