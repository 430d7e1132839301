/-! TEXTS: the reference reads a line -/
/-- what is kept stays small -/
def y_tb (M : jm_Mem) : Prop := (∀ i, -99 ≤ M 73 i ∧ M 73 i ≤ 99) ∧ -99 ≤ M 67 20 ∧ M 67 20 ≤ 99
theorem y_tb_up {M M' : jm_Mem} {i v : Int} (h : y_tb M) (h1 : M' 73 = jm_up (M 73) i v) (hv : -99 ≤ v ∧ v ≤ 99) (h2 : -99 ≤ M' 67 20 ∧ M' 67 20 ≤ 99) : y_tb M' := by
  refine ⟨fun j => ?_, h2⟩
  rw [h1, jm_up_e]
  by_cases q : j = i
  · rw [if_pos q]; exact hv
  · rw [if_neg q]; exact h.1 j
theorem y_rb_fx {b : Int → Int} {n : Int} {cs : List Nat} {is : List Int} {M M' : jm_Mem} (hf : jm_fx cs is M M') (h : 72 ∉ cs) (hb : l_rb b n M) : l_rb b n M' := fun v v0 v1 => by rw [hf.1 72 h (by decide)]; exact hb v v0 v1
/-- the bounds of a line -/
theorem p_145_fg {M : jm_Mem} {b : Int → Int} {n q L : Int} {Q : jm_Q} (hb : l_rb b n M) (hby : l_by b) (hn : M 67 9 = n) (n1 : n ≤ 600) (p0 : 0 ≤ q) (p1 : q ≤ n) (hx : l_gx b n (l_st b n q) M) (h15 : M 67 15 = 0) (hL : M 67 17 = L) (L0 : 0 ≤ L) (L1 : L ≤ 150) (htb : y_tb M) (hok : ∀ f g q' M', y_fg b n q = .ok (f, g, q') → jm_fx [73] [10, 11, 12, 13, 14, 15, 17, 20] M M' → M' 67 15 = 0 → M' 67 17 = L + 1 → M' 73 = jm_up (jm_up (M 73) (5 * L + 3) f) (5 * L + 4) g → l_gx b n (l_st b n q') M' → y_tb M' → Q (some (jm_I 1)) M') (her : ∀ F M', y_fg b n q = .error F → jm_fx [73] [10, 11, 12, 13, 14, 15, 17, 20] M M' → M' 67 15 = F → y_tb M' → Q (some (jm_I 0)) M') : jm_cl 144 [jm_R 67, jm_I 3, jm_I (-99), jm_I 99] M (fun r M4 => ∃ r4 : Int, r = some (jm_I r4) ∧ (r4 = 0 → (0 : Int) ≤ 0 ∧ (0 : Int) ≤ 1 ∧ Q (some (jm_I 0)) M4) ∧ (¬ r4 = 0 → jm_in (5 * L + 3) ∧ (0 : Int) ≤ 5 * L + 3 ∧ 5 * L + 3 < 900 ∧ jm_in (-(M4 73 (5 * L + 3))) ∧ jm_cl 144 [jm_R 67, jm_I 4, jm_I (-(M4 73 (5 * L + 3))), jm_I 99] M4 (fun r M5 => ∃ r5 : Int, r = some (jm_I r5) ∧ (r5 = 0 → (0 : Int) ≤ 0 ∧ (0 : Int) ≤ 1 ∧ Q (some (jm_I 0)) M5) ∧ (¬ r5 = 0 → jm_in (M5 67 17 + 1) ∧ (0 : Int) ≤ 1 ∧ (1 : Int) ≤ 1 ∧ Q (some (jm_I 1)) (jm_st M5 67 17 (M5 67 17 + 1)))))) := by
  unfold y_fg at hok her
  refine p_144 hb hby hn n1 p0 p1 hx h15 hL L0 L1 (by omega) (by omega) ?_ ?_
  · intro f q1 M1 h1 f1 m15 m20 m73 g1
    obtain ⟨b1, b2, b3, b4⟩ := y_wh_ok p1 h1
    rw [h1] at hok her
    dsimp only at hok her
    have e73 : M1 73 (5 * L + 3) = f := by rw [m73, jm_up_s]
    have tb1 : y_tb M1 := y_tb_up htb m73 ⟨b1, b2⟩ (by rw [m20]; exact ⟨b1, b2⟩)
    rw [e73]
    refine ⟨_, rfl, fun z => by omega, fun _ => ⟨⟨by omega, by omega⟩, by omega, by omega, ⟨by omega, by omega⟩, ?_⟩⟩
    refine p_144 (y_rb_fx f1 (by decide) hb) hby (by rw [f1.2 9 (by decide)]; exact hn) n1 (by omega) b4 g1 m15 (by rw [f1.2 17 (by decide)]; exact hL) L0 L1 (by omega) (by omega) ?_ ?_
    · intro g q2 M2 h2 f2 k15 k20 k73 g2
      obtain ⟨c1, c2, c3, c4⟩ := y_wh_ok b4 h2
      rw [h2] at hok
      dsimp only at hok
      have k17 : M2 67 17 = L := by rw [f2.2 17 (by decide), f1.2 17 (by decide)]; exact hL
      have tb2 : y_tb M2 := y_tb_up tb1 k73 (by omega) (by rw [k20]; omega)
      rw [k17]
      refine ⟨_, rfl, fun z => by omega, fun _ => ⟨⟨by omega, by omega⟩, by omega, by omega, hok f g q2 _ rfl (jm_fx_tr (jm_fx_mo f1 (fun _ h => h) (by decide)) (jm_fx_tr (jm_fx_mo f2 (fun _ h => h) (by decide)) (jm_fx_sx (by decide)))) ?_ ?_ ?_ g2 ?_⟩⟩
      · rw [jm_s67, if_neg (by omega)]; exact k15
      · rw [jm_s67, if_pos rfl]
      · show M2 73 = _
        rw [k73, m73]
      · exact tb2
    · intro F M2 h2 f2 k15 k20 k73
      rw [h2] at her
      have tb2 : y_tb M2 := y_tb_up tb1 k73 (by rw [m20]; exact ⟨b1, b2⟩) (by rw [k20, m20]; exact ⟨b1, b2⟩)
      exact ⟨_, rfl, fun _ => ⟨by omega, by omega, her F M2 rfl (jm_fx_tr (jm_fx_mo f1 (fun _ h => h) (by decide)) (jm_fx_mo f2 (fun _ h => h) (by decide))) k15 tb2⟩, fun z => absurd rfl z⟩
  · intro F M1 h1 f1 m15 m20 m73
    rw [h1] at her
    exact ⟨_, rfl, fun _ => ⟨by omega, by omega, her F M1 rfl (jm_fx_mo f1 (fun _ h => h) (by decide)) m15 (y_tb_up htb m73 htb.2 (by rw [m20]; exact htb.2))⟩, fun z => absurd rfl z⟩
