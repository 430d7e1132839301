/-! THE CLASS'S TABLES: the edges of a node -/
theorem e_81_T {M : jm_Mem} (hg : g_sd (M 2 4) (M 2 5)) (k : Int) (Q : jm_Q) : jm_cl 81 [jm_R 2, jm_I k] M Q ↔ Q (some (jm_I (if k = 1 then M 2 4 - 1 else M 2 4 - 2))) M := by
  refine jm_cl_e (fun Q h => sc_81_T ?_) Q
  obtain ⟨g1, g2, g3, g4⟩ := hg
  refine ⟨fun a => ⟨⟨by omega, by omega⟩, ?_⟩, fun a => ⟨⟨by omega, by omega⟩, ?_⟩⟩
  · rwa [if_pos a] at h
  · rwa [if_neg a] at h
theorem e_82_T {M : jm_Mem} (hg : g_sd (M 2 4) (M 2 5)) (k : Int) (Q : jm_Q) : jm_cl 82 [jm_R 2, jm_I k] M Q ↔ Q (some (jm_I (if k = 0 then M 2 5 - 1 else M 2 5 - 2))) M := by
  refine jm_cl_e (fun Q h => sc_82_T ?_) Q
  obtain ⟨g1, g2, g3, g4⟩ := hg
  refine ⟨fun a => ⟨⟨by omega, by omega⟩, ?_⟩, fun a => ⟨⟨by omega, by omega⟩, ?_⟩⟩
  · rwa [if_pos a] at h
  · rwa [if_neg a] at h
theorem e_80_T {M : jm_Mem} (hg : g_sd (M 2 4) (M 2 5)) (k x y : Int) (Q : jm_Q) : jm_cl 80 [jm_R 2, jm_I k, jm_I x, jm_I y] M Q ↔ Q (some (jm_I (jm_B (0 ≤ x ∧ x ≤ (if k = 1 then M 2 4 - 1 else M 2 4 - 2) ∧ 0 ≤ y ∧ y ≤ (if k = 0 then M 2 5 - 1 else M 2 5 - 2))))) M := by
  refine jm_cl_e (fun Q h => sc_80_T ?_) Q
  refine ⟨fun a => ⟨by omega, by omega, ?_⟩, fun a => ?_⟩
  · rwa [jm_Bf (by omega)] at h
  · rw [e_81_T hg]
    refine ⟨_, rfl, fun b => ⟨by omega, by omega, ?_⟩, fun b => ⟨fun c => ⟨by omega, by omega, ?_⟩, fun c => ?_⟩⟩
    · rwa [jm_Bf (by omega)] at h
    · rwa [jm_Bf (by omega)] at h
    · rw [e_82_T hg]
      refine ⟨_, rfl, fun d => ⟨by omega, by omega, ?_⟩, fun d => ⟨by omega, by omega, ?_⟩⟩
      · rwa [jm_Bf (by omega)] at h
      · rwa [jm_Bt (by omega)] at h
theorem e_13 {M : jm_Mem} {c : Int} (h0 : 0 ≤ c) (h1 : c < 36) (Q : jm_Q) : jm_cl 13 [jm_R 1, jm_I c] M Q ↔ Q (some (jm_I (if M 3 c = 0 then 2 * c else 2 * c + 1))) M := by
  refine jm_cl_e (fun Q h => sc_13 ?_) Q
  refine ⟨h0, h1, fun a => ⟨⟨by omega, by omega⟩, ?_⟩, fun a => ⟨⟨by omega, by omega⟩, ⟨by omega, by omega⟩, ?_⟩⟩
  · rwa [if_pos a] at h
  · rwa [if_neg a] at h
theorem e_14 {M : jm_Mem} {c : Int} (h0 : 0 ≤ c) (h1 : c < 36) (Q : jm_Q) : jm_cl 14 [jm_R 1, jm_I c] M Q ↔ Q (some (jm_I (if M 3 c = 1 then 2 * c + 1 else 2 * c))) M := by
  refine jm_cl_e (fun Q h => sc_14 ?_) Q
  refine ⟨h0, h1, fun a => ⟨⟨by omega, by omega⟩, ⟨by omega, by omega⟩, ?_⟩, fun a => ⟨⟨by omega, by omega⟩, ?_⟩⟩
  · rwa [if_pos a] at h
  · rwa [if_neg a] at h
theorem e_15 {M : jm_Mem} {c : Int} (h0 : 0 ≤ c) (h1 : c < 36) (Q : jm_Q) : jm_cl 15 [jm_R 1, jm_I c] M Q ↔ Q (some (jm_I (if M 3 c = 2 then 2 * c + 1 else 2 * c))) M := by
  refine jm_cl_e (fun Q h => sc_15 ?_) Q
  refine ⟨h0, h1, fun a => ⟨⟨by omega, by omega⟩, ⟨by omega, by omega⟩, ?_⟩, fun a => ⟨⟨by omega, by omega⟩, ?_⟩⟩
  · rwa [if_pos a] at h
  · rwa [if_neg a] at h
/-- the faces of an edge, as the class tells them -/
theorem g_faces {w h : Int} {sl : Int → Int} (hg : g_ok w h sl) {n x y : Int} (hx : n % w = x) (hy : n / w = y) (hn : n = y * w + x) (x0 : 0 ≤ x) (x1 : x < w) (y0 : 0 ≤ y) (y1 : y < h) :
    (x < w - 1 → g_lf w h sl (3 * n) = (if 0 < y then (if sl (n - w) = 0 then 2 * (n - w) else 2 * (n - w) + 1) else 72) ∧ g_rt w h sl (3 * n) = (if y < h - 1 then 2 * n else 72)) ∧
    (y < h - 1 → g_lf w h sl (3 * n + 1) = (if x < w - 1 then (if sl n = 1 then 2 * n + 1 else 2 * n) else 72) ∧ g_rt w h sl (3 * n + 1) = (if 0 < x then (if sl (n - 1) = 2 then 2 * (n - 1) + 1 else 2 * (n - 1)) else 72)) := by
  rw [g_lf0, g_rt0, g_lf1, g_rt1, hx, hy]
  unfold g_fa
  have h1 : (y - 1) * w + x = n - w := by rw [hn, Int.sub_mul]; omega
  have h2 : y * w + (x - 1) = n - 1 := by omega
  rw [← hn, h1, h2]
  have s1 := g_slb hg (n - w)
  have s2 := g_slb hg n
  have s3 := g_slb hg (n - 1)
  refine ⟨fun a => ⟨?_, ?_⟩, fun a => ⟨?_, ?_⟩⟩
  · by_cases b : 0 < y
    · rw [if_pos (by omega), if_pos b]
      by_cases c : sl (n - w) = 0
      · rw [if_neg (by omega), if_pos c]
      · rw [if_pos (by omega), if_neg c]
    · rw [if_neg (by omega), if_neg b]
  · by_cases b : y < h - 1
    · rw [if_pos (by omega), if_pos b, if_neg (by omega)]
    · rw [if_neg (by omega), if_neg b]
  · by_cases b : x < w - 1
    · rw [if_pos (by omega), if_pos b]
      by_cases c : sl n = 1
      · rw [if_pos (by omega), if_pos c]
      · rw [if_neg (by omega), if_neg c]
    · rw [if_neg (by omega), if_neg b]
  · by_cases b : 0 < x
    · rw [if_pos (by omega), if_pos b]
      by_cases c : sl (n - 1) = 2
      · rw [if_pos (by omega), if_pos c]
      · rw [if_neg (by omega), if_neg c]
    · rw [if_neg (by omega), if_neg b]
/-- while tables are made: nothing else changes -/
def g_R (M0 M : jm_Mem) : Prop := jm_fr [1, 7, 8, 9, 10, 11, 12, 13] M0 M ∧ ∀ i, i ≠ 13 → i ≠ 15 → M 1 i = M0 1 i
/-- the edges below e are placed -/
def g_S (w h : Int) (sl : Int → Int) (M0 : jm_Mem) (e : Int) (M : jm_Mem) : Prop := g_R M0 M ∧ ∃ l, g_pl w h sl l M ∧ l ++ g_ls (fun e => g_E w h sl e) 108 e = g_el w h sl ∧ M 1 15 = ((l.filter (fun x => decide (x % 3 = 2))).length : Int)
theorem g_S_no {w h : Int} {sl : Int → Int} {M0 M : jm_Mem} {e : Int} (he : ¬ g_E w h sl e) (h1 : e < 108) (hS : g_S w h sl M0 e M) : g_S w h sl M0 (e + 1) M := by
  obtain ⟨a, l, b, c, d⟩ := hS
  refine ⟨a, l, b, ?_, d⟩
  rw [← g_ls_n h1 he]
  exact c
theorem g_S_16 {w h : Int} {sl : Int → Int} {M0 M : jm_Mem} {e k a b d f g : Int} {Q : jm_Q} (hg : g_ok w h sl) (he : g_E w h sl e) (h3 : e % 3 ≠ 2) (hk : k = e) (ha : a = g_fr sl e) (hb : b = g_to w sl e) (hd : d = g_di sl e) (hf : f = g_lf w h sl e) (hgr : g = g_rt w h sl e) (hS : g_S w h sl M0 e M) (hQ : ∀ M', g_S w h sl M0 (e + 1) M' → Q none M') : jm_cl 16 [jm_R 1, jm_I k, jm_I a, jm_I b, jm_I d, jm_I f, jm_I g] M Q := by
  subst hk ha hb hd hf hgr
  have hb := g_Eb hg.1 he
  obtain ⟨⟨r1, r2⟩, l, p, c, s⟩ := hS
  rw [g_ls_y hb.2.1 he] at c
  have hnd : (g_el w h sl).Nodup := g_ls_nd 0 (by omega)
  have hln : ((g_el w h sl).length : Int) ≤ 108 - 0 := g_ls_len 0 (by omega)
  rw [← c] at hnd hln
  rw [List.length_append, List.length_cons] at hln
  refine p_16 hg (by omega) he ?_ p ?_
  · intro q
    rw [List.nodup_append] at hnd
    exact hnd.2.2 k q k (List.mem_cons_self) rfl
  · intro M' h1 h2 h3'
    refine hQ M' ⟨⟨jm_fr_tr r1 h3', fun i a b => (h2 i a).trans (r2 i a b)⟩, l ++ [k], h1, ?_, ?_⟩
    · rw [List.append_assoc]
      exact c
    · rw [h2 15 (by omega), s, List.filter_append]
      simp [h3]
theorem g_S_16s {w h : Int} {sl : Int → Int} {M0 M : jm_Mem} {e k a b d f g : Int} {Q : jm_Q} (hg : g_ok w h sl) (he : g_E w h sl e) (h3 : e % 3 = 2) (hk : k = e) (ha : a = g_fr sl e) (hb : b = g_to w sl e) (hd : d = g_di sl e) (hf : f = g_lf w h sl e) (hgr : g = g_rt w h sl e) (hS : g_S w h sl M0 e M) (hQ : ∀ M', g_S w h sl M0 (e + 1) M' → Q none M') : jm_cl 16 [jm_R 1, jm_I k, jm_I a, jm_I b, jm_I d, jm_I f, jm_I g] (jm_st M 1 15 (M 1 15 + 1)) Q := by
  subst hk ha hb hd hf hgr
  have hb := g_Eb hg.1 he
  obtain ⟨⟨r1, r2⟩, l, p, c, s⟩ := hS
  rw [g_ls_y hb.2.1 he] at c
  have hnd : (g_el w h sl).Nodup := g_ls_nd 0 (by omega)
  have hln : ((g_el w h sl).length : Int) ≤ 108 - 0 := g_ls_len 0 (by omega)
  rw [← c] at hnd hln
  rw [List.length_append, List.length_cons] at hln
  have p' : g_pl w h sl l (jm_st M 1 15 (M 1 15 + 1)) := by
    unfold g_pl at p ⊢
    simp only [jm_st_e, Nat.reduceEqDiff, reduceIte]
    exact p
  refine p_16 hg (by omega) he ?_ p' ?_
  · intro q
    rw [List.nodup_append] at hnd
    exact hnd.2.2 k q k (List.mem_cons_self) rfl
  · intro M' h1 h2 h3'
    refine hQ M' ⟨⟨jm_fr_tr (jm_fr_tr r1 (jm_fr_st (by decide))) h3', fun i a b => (h2 i a).trans ?_⟩, l ++ [k], h1, ?_, ?_⟩
    · rw [jm_st_e, if_pos rfl, jm_up_o b]
      exact r2 i a b
    · rw [List.append_assoc]
      exact c
    · rw [h2 15 (by omega), jm_st_e, if_pos rfl, jm_up_s, s, List.filter_append]
      simp [h3]
