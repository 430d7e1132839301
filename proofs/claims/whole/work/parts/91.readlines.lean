/-! TEXTS: the class reads lines -/
def y_fr (M M' : jm_Mem) : Prop := y_fl M M' ∧ M' 65 1 = M 65 1 ∧ M' 65 2 = M 65 2
theorem y_fr_tr {M M1 M2 : jm_Mem} (h1 : y_fr M M1) (h2 : y_fr M1 M2) : y_fr M M2 := ⟨fun c a1 a2 a3 a4 a5 a6 => (h2.1 c a1 a2 a3 a4 a5 a6).trans (h1.1 c a1 a2 a3 a4 a5 a6), h2.2.1.trans h1.2.1, h2.2.2.trans h1.2.2⟩
theorem y_fr_fe {M M1 : jm_Mem} (h : jm_fe [3, 4, 5, 6, 7] M M1) : y_fr M M1 := ⟨fun c a _ _ _ _ _ => h.1 c a, h.2 1 (by decide), h.2 2 (by decide)⟩
theorem y_fr_fr {cs : List Nat} {M M1 : jm_Mem} (h : jm_fr cs M M1) (hc : ∀ c ∈ cs, c = 16 ∨ c = 17 ∨ c = 18 ∨ c = 19 ∨ c = 20) : y_fr M M1 := by
  have h65 : M1 65 = M 65 := h 65 (fun q => by rcases hc 65 q with z | z | z | z | z <;> cases z)
  refine ⟨fun c a1 a2 a3 a4 a5 a6 => h c (fun q => ?_), by rw [h65], by rw [h65]⟩
  rcases hc c q with z | z | z | z | z
  · exact a2 z
  · exact a3 z
  · exact a4 z
  · exact a5 z
  · exact a6 z
theorem y_tp_fr {b : Int → Int} {n : Int} {M M1 : jm_Mem} (hf : y_fr M M1) (h : y_tp b n M) : y_tp b n M1 := ⟨by rw [hf.1 66 (by decide) (by decide) (by decide) (by decide) (by decide) (by decide)]; exact h.1, by rw [hf.2.2]; exact h.2⟩
theorem y_mx {f : Int} (h1 : -99 ≤ f) (h2 : f ≤ 99) : (if (-99 : Int) < -f then -f else -99) = -f := by
  by_cases q : (-99 : Int) < -f
  · rw [if_pos q]
  · rw [if_neg q]; omega
theorem p_66 {w h : Int} {G : y_G} {b : Int → Int} {n p x y : Int} {M : jm_Mem} {Q : jm_Q} (hg : g_ok w h G.1) (ht : y_tp b n M) (hby : l_by b) (n1 : n ≤ 600) (hp : M 65 3 = p) (p0 : 0 ≤ p) (p1 : p ≤ n) (hd : y_dr w h G M) (hok : ∀ f g q M', y_fg b n p = .ok (f, g, q) → y_fr M M' → M' 65 7 = M 65 7 → M' 65 3 = q → y_dr w h (y_ap w h (4, x, y, f, g) G) M' → Q (some (jm_I 1)) M') (her : ∀ F M', y_fg b n p = .error F → y_fr M M' → M' 65 7 = -2 - F → Q (some (jm_I 0)) M') : jm_cl 66 [jm_R 65, jm_R 16] M Q := by
  unfold y_fg at hok her
  refine sc_66 (p_69 ht hby n1 hp p0 p1 ?_ ?_)
  · intro f q1 M1 h1 f1 m7 m3 m6
    rw [h1] at hok her
    dsimp only at hok her
    obtain ⟨b1, b2, b3, b4⟩ := y_wh_ok p1 h1
    refine ⟨_, rfl, fun z => by omega, fun _ => ?_⟩
    rw [m6, y_mx b1 b2]
    refine ⟨⟨by omega, by omega⟩, p_69 (y_tp_fe f1 (by decide) ht) hby n1 m3 (by omega) b4 ?_ ?_⟩
    · intro g q2 M2 h2 f2 k7 k3 k6
      rw [h2] at hok
      dsimp only at hok
      have fr2 : y_fr M M2 := y_fr_tr (y_fr_fe f1) (y_fr_fe f2)
      have hd2 := y_dr_fe f2 (y_dr_fe f1 hd)
      refine ⟨_, rfl, fun z => by omega, fun _ => ?_⟩
      refine p_66_22 (sl := G.1) hg hd2.1 hd2.2.1 hd2.2.2.1 k6 ?_
      intro M3 hA
      have m65 : M3 65 = M2 65 := hA.1 65 (by decide)
      refine hok f g q2 M3 rfl (y_fr_tr fr2 (y_fr_fr hA.1 (by decide))) (by rw [m65, k7, m7]) (by rw [m65]; exact k3) ?_
      refine ⟨by rw [hA.1 16 (by decide)]; exact hd2.1, by rw [hA.1 16 (by decide)]; exact hd2.2.1, by rw [hA.1 17 (by decide)]; exact hd2.2.2.1, fun e e0 e1 => ?_, by rw [hA.1 20 (by decide)]; exact hd2.2.2.2.2⟩
      obtain ⟨a1, a2⟩ := hA.2 e e0 e1
      obtain ⟨c1, c2⟩ := hd2.2.2.2.1 e e0 e1
      show M3 18 e = (if g_E w h G.1 e then f else G.2.1 e) ∧ M3 19 e = (if g_E w h G.1 e then g else G.2.2 e)
      by_cases z : g_E w h G.1 e
      · rw [if_pos ⟨z, e1⟩] at a1 a2
        rw [if_pos z, if_pos z]; exact ⟨a1, a2⟩
      · rw [if_neg (fun u => z u.1)] at a1 a2
        rw [if_neg z, if_neg z, ← c1, ← c2]; exact ⟨a1, a2⟩
    · intro F M2 h2 f2 k7
      rw [h2] at her
      exact ⟨_, rfl, fun _ => ⟨by omega, by omega, her F M2 rfl (y_fr_tr (y_fr_fe f1) (y_fr_fe f2)) k7⟩, fun z => absurd rfl z⟩
  · intro F M1 h1 f1 m7
    rw [h1] at her
    exact ⟨_, rfl, fun _ => ⟨by omega, by omega, her F M1 rfl (y_fr_fe f1) m7⟩, fun z => absurd rfl z⟩
