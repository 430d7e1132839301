/-! THE CLASS'S TABLES: an edge is placed -/
def g_pl (w h : Int) (sl : Int → Int) (l : List Int) (M : jm_Mem) : Prop :=
  M 1 13 = (l.length : Int) ∧
  (∀ (k : Nat) (e : Int), l[k]? = some e → M 7 (k : Int) = e) ∧
  (∀ e, 0 ≤ e → e < 108 → M 8 e = if e ∈ l then g_fr sl e else -1) ∧
  (∀ e, e ∈ l → M 9 e = g_to w sl e ∧ M 10 e = g_lf w h sl e ∧ M 11 e = g_rt w h sl e) ∧
  (∀ f, 0 ≤ f → f < 73 → M 12 f = ((l.filter (fun e => decide (g_lf w h sl e = f ∨ g_rt w h sl e = f))).length : Int)) ∧
  (∀ n d, g_nd w h n → 0 ≤ d → d < 8 → M 13 (n * 8 + d) = if g_at w h sl n d ∈ l then g_at w h sl n d else -1)
theorem p_16 {w h : Int} {sl : Int → Int} {l : List Int} {e : Int} {M : jm_Mem} {Q : jm_Q} (hg : g_ok w h sl) (hlen : l.length < 108) (he : g_E w h sl e) (hn : e ∉ l) (hP : g_pl w h sl l M) (hQ : ∀ M', g_pl w h sl (l ++ [e]) M' → (∀ i, i ≠ 13 → M' 1 i = M 1 i) → jm_fr [1, 7, 8, 9, 10, 11, 12, 13] M M' → Q none M') : jm_cl 16 [jm_R 1, jm_I e, jm_I (g_fr sl e), jm_I (g_to w sl e), jm_I (g_di sl e), jm_I (g_lf w h sl e), jm_I (g_rt w h sl e)] M Q := by
  obtain ⟨p1, p2, p3, p4, p5, p6⟩ := hP
  obtain ⟨b1, b2, b3, b4⟩ := g_Eb hg.1 he
  obtain ⟨e1, e2, e3⟩ := g_ends hg.1 he
  have n1 := g_nb hg.1 e1
  have n2 := g_nb hg.1 e2
  obtain ⟨-, f1, f2⟩ := g_lfF hg he
  obtain ⟨-, f3, f4⟩ := g_rtF hg he
  have f5 := g_two hg.1 he
  obtain ⟨a1, a2⟩ := g_at_e hg he
  have hd : 2 ≤ g_di sl e ∧ g_di sl e ≤ 5 := by
    unfold g_di
    split
    · omega
    · split
      · omega
      · split <;> omega
  have c1 := p5 _ f1 (by omega : g_lf w h sl e < 73)
  have c2 := p5 _ f3 (by omega : g_rt w h sl e < 73)
  have l1 := List.length_filter_le (fun x => decide (g_lf w h sl x = g_lf w h sl e ∨ g_rt w h sl x = g_lf w h sl e)) l
  have l2 := List.length_filter_le (fun x => decide (g_lf w h sl x = g_rt w h sl e ∨ g_rt w h sl x = g_rt w h sl e)) l
  have hr : jm_rm (g_di sl e + 4) 8 = (g_di sl e + 4) % 8 := jm_rm_e (by omega)
  refine sc_16 ?_
  simp only [jm_st_e, Nat.reduceEqDiff, reduceIte, hr, jm_up_o (Ne.symm f5), jm_up_s]
  refine ⟨b1, b2, b1, b2, b1, b2, b1, b2, f1, by omega, ⟨by omega, by omega⟩, f1, by omega, f3, by omega, ⟨by omega, by omega⟩, f3, by omega, ⟨by omega, by omega⟩, ⟨by omega, by omega⟩, by omega, by omega, ⟨by omega, by omega⟩, ⟨by omega, by omega⟩, by omega, ⟨by omega, by omega⟩, by omega, by omega, by omega, by omega, ⟨by omega, by omega⟩, ?_⟩
  refine hQ _ ?_ ?_ ?_
  · unfold g_pl
    simp only [jm_st_e, Nat.reduceEqDiff, reduceIte]
    refine ⟨?_, ?_, ?_, ?_, ?_, ?_⟩
    · rw [jm_up_s, p1, List.length_append, List.length_singleton]
      omega
    · intro k x hk
      by_cases hkl : k < l.length
      · rw [List.getElem?_append_left hkl] at hk
        rw [jm_up_o (by omega)]
        exact p2 k x hk
      · rw [List.getElem?_append_right (by omega)] at hk
        by_cases h0 : k - l.length = 0
        · rw [h0] at hk
          injection hk with hk
          rw [show (k : Int) = M 1 13 by omega, jm_up_s]
          exact hk
        · obtain ⟨j, hj⟩ : ∃ j, k - l.length = j + 1 := ⟨k - l.length - 1, by omega⟩
          rw [hj] at hk
          cases hk
    · intro x x0 x1
      by_cases hx : x = e
      · subst hx
        rw [jm_up_s, if_pos (by simp)]
      · rw [jm_up_o hx, p3 x x0 x1]
        simp only [List.mem_append, List.mem_singleton, hx, or_false]
    · intro x hx
      by_cases hxe : x = e
      · subst hxe
        rw [jm_up_s, jm_up_s, jm_up_s]
        exact ⟨rfl, rfl, rfl⟩
      · rw [jm_up_o hxe, jm_up_o hxe, jm_up_o hxe]
        refine p4 x ?_
        rw [List.mem_append, List.mem_singleton] at hx
        exact hx.resolve_right hxe
    · intro f g0 g1
      rw [List.filter_append, List.length_append]
      by_cases hf : f = g_rt w h sl e
      · subst hf
        rw [jm_up_s, c2]
        simp
      · rw [jm_up_o hf]
        by_cases hf2 : f = g_lf w h sl e
        · subst hf2
          rw [jm_up_s, c1]
          simp
        · rw [jm_up_o hf2, p5 f g0 g1]
          simp [Ne.symm hf, Ne.symm hf2]
    · intro n d hnd d0 d8
      have hnb := g_nb hg.1 hnd
      by_cases hj2 : n * 8 + d = g_to w sl e * 8 + (g_di sl e + 4) % 8
      · have q1 : n = g_to w sl e := by omega
        have q2 : d = (g_di sl e + 4) % 8 := by omega
        rw [hj2, jm_up_s, q1, q2, a2, if_pos (by simp)]
      · rw [jm_up_o hj2]
        by_cases hj1 : n * 8 + d = g_fr sl e * 8 + g_di sl e
        · have q1 : n = g_fr sl e := by omega
          have q2 : d = g_di sl e := by omega
          rw [hj1, jm_up_s, q1, q2, a1, if_pos (by simp)]
        · rw [jm_up_o hj1, p6 n d hnd d0 d8]
          have hne : g_at w h sl n d ≠ e := by
            intro q
            rcases g_at_i hg hnd d0 d8 with r | ⟨r1, ⟨r2, r3⟩ | ⟨r2, r3⟩⟩
            · omega
            · rw [q] at r2 r3
              exact hj1 (by rw [← r2, ← r3])
            · rw [q] at r2 r3
              exact hj2 (by rw [← r2, ← r3])
          simp only [List.mem_append, List.mem_singleton, hne, or_false]
  · intro i hi
    simp only [jm_st_e, Nat.reduceEqDiff, reduceIte]
    rw [jm_up_o hi]
  · intro c hc
    simp only [List.mem_cons, List.not_mem_nil, or_false, not_or] at hc
    obtain ⟨q1, q2, q3, q4, q5, q6, q7, q8⟩ := hc
    simp only [jm_st_e, if_neg q1, if_neg q2, if_neg q3, if_neg q4, if_neg q5, if_neg q6, if_neg q7, if_neg q8]
