/-! THE REFERENCE: costs with hops -/
def b_co (o : Option Int) : Int := match o with
  | none => 100000000
  | some b => b / 65536
def b_ho (o : Option Int) : Int := match o with
  | none => 100000000
  | some b => b % 65536
def x_rp (s : b_S) (M : jm_Mem) : Prop := ∀ v, 0 ≤ v → v < 74 → M 74 v = b_co (s.1 v) ∧ M 75 v = b_ho (s.1 v)
def x_bd (t : Int) (s : b_S) : Prop := ∀ v b, s.1 v = some b → b % 65536 ≤ t ∧ -(100 * t) ≤ b / 65536 ∧ b / 65536 ≤ 100 * t
theorem x_bd_t {t : Int} {s : b_S} {f g W e : Int} (hW : -100 ≤ W ∧ W ≤ 100) (ht : t + 1 < 65536) (h : x_bd t s) : x_bd (t + 1) (b_t s (f, g, 65536 * W + 1, e)) := by
  have w : x_bd (t + 1) s := fun v b hb => by
    have := h v b hb
    omega
  cases hk : b_ok s.1 f g (65536 * W + 1) with
  | false => rw [b_t_f (x := (f, g, 65536 * W + 1, e)) hk]; exact w
  | true =>
    obtain ⟨a, ha, hnw, -⟩ := b_ok_t hk
    rw [b_t_t (x := (f, g, 65536 * W + 1, e)) hk]
    intro v b hb
    dsimp only at hb
    rw [hnw] at hb
    by_cases q : v = g
    · rw [q, b_pt_s] at hb
      injection hb with hb
      have := h f a ha
      omega
    · rw [b_pt_o q] at hb
      exact w v b hb
theorem e_156 {M : jm_Mem} {f : Int} (f0 : 0 ≤ f) (f1 : f < 74) (c n : Int) (Q : jm_Q) : jm_cl 156 [jm_R 67, jm_I f, jm_I c, jm_I n] M Q ↔ Q (some (jm_I (jm_B (c < M 74 f ∨ c = M 74 f ∧ n < M 75 f)))) M := by
  refine jm_cl_e (fun Q h => sc_156 ?_) Q
  refine ⟨f0, f1, fun a => ⟨by omega, by omega, ?_⟩, fun a => ⟨f0, f1, fun b => ⟨f0, f1, fun d => ⟨by omega, by omega, ?_⟩, fun d => ⟨by omega, by omega, ?_⟩⟩, fun b => ⟨by omega, by omega, ?_⟩⟩⟩
  · rwa [jm_Bt (Or.inl a)] at h
  · rwa [jm_Bt (Or.inr ⟨b, d⟩)] at h
  · rwa [jm_Bf (by omega)] at h
  · rwa [jm_Bf (by omega)] at h
theorem p_157 {s : b_S} {M : jm_Mem} {f g W e t : Int} {Q : jm_Q} (f0 : 0 ≤ f) (f1 : f < 74) (g0 : 0 ≤ g) (g1 : g < 74) (hW : -100 ≤ W ∧ W ≤ 100) (hb : x_bd t s) (t0 : 0 ≤ t) (t1 : t ≤ 20000) (hR : x_rp s M) (hQ : ∀ M', x_rp (b_t s (f, g, 65536 * W + 1, e)) M' → jm_fr [74, 75] M M' → Q (some (jm_I (jm_B (b_ok s.1 f g (65536 * W + 1) = true)))) M') : jm_cl 157 [jm_R 67, jm_I f, jm_I g, jm_I W] M Q := by
  obtain ⟨rf, rf2⟩ := hR f f0 f1
  obtain ⟨rg, rg2⟩ := hR g g0 g1
  refine sc_157 ⟨f0, f1, fun a => ?_, fun a => ⟨by omega, by omega, ?_⟩⟩
  · cases hf : s.1 f with
    | none =>
      rw [hf] at rf
      have : M 74 f = 100000000 := rf
      omega
    | some b =>
      rw [hf] at rf rf2
      have rf : M 74 f = b / 65536 := rf
      have rf2 : M 75 f = b % 65536 := rf2
      have hbb := hb f b hf
      refine ⟨f0, f1, ⟨by omega, by omega⟩, f0, f1, ⟨by omega, by omega⟩, ?_⟩
      rw [e_156 g0 g1]
      have hiff : (M 74 f + W < M 74 g ∨ M 74 f + W = M 74 g ∧ M 75 f + 1 < M 75 g) ↔ b_ok s.1 f g (65536 * W + 1) = true := by
        unfold b_ok
        rw [hf]
        cases hg : s.1 g with
        | none =>
          rw [hg] at rg
          have rg : M 74 g = 100000000 := rg
          simp only [iff_true]
          omega
        | some c =>
          rw [hg] at rg rg2
          have rg : M 74 g = c / 65536 := rg
          have rg2 : M 75 g = c % 65536 := rg2
          have hbc := hb g c hg
          simp only [decide_eq_true_eq]
          omega
      rw [jm_Bc hiff]
      refine ⟨_, rfl, fun d => ⟨by omega, by omega, ?_⟩, fun d => ⟨f0, f1, ⟨by omega, by omega⟩, g0, g1, f0, f1, ?_⟩⟩
      · rw [jm_B0, Bool.not_eq_true] at d
        rw [jm_Bf (by rw [d]; simp), b_t_f (x := (f, g, 65536 * W + 1, e)) d] at hQ
        exact hQ M hR (jm_fr_rfl _ _)
      · rw [jm_Bn] at d
        simp only [jm_st_e, Nat.reduceEqDiff, reduceIte]
        refine ⟨⟨by omega, by omega⟩, g0, g1, by omega, by omega, ?_⟩
        rw [jm_Bt d, b_t_t (x := (f, g, 65536 * W + 1, e)) d] at hQ
        refine hQ _ ?_ (jm_fr_tr (jm_fr_st (by decide)) (jm_fr_st (by decide)))
        intro v v0 v1
        simp only [jm_st_e, Nat.reduceEqDiff, reduceIte]
        by_cases q : v = g
        · obtain ⟨x, hx, hnw, -⟩ := b_ok_t d
          rw [q, jm_up_s, jm_up_s, b_pt_s, hnw]
          rw [hf] at hx
          injection hx with hx
          show M 74 f + W = (x + (65536 * W + 1)) / 65536 ∧ M 75 f + 1 = (x + (65536 * W + 1)) % 65536
          omega
        · rw [jm_up_o q, jm_up_o q, b_pt_o q]
          exact hR v v0 v1
  · have hk : b_ok s.1 f g (65536 * W + 1) = false := by
      unfold b_ok
      cases hf : s.1 f with
      | none => rfl
      | some b =>
        rw [hf] at rf
        have rf : M 74 f = b / 65536 := rf
        have hbb := hb f b hf
        omega
    rw [jm_Bf (by rw [hk]; simp), b_t_f (x := (f, g, 65536 * W + 1, e)) hk] at hQ
    exact hQ M hR (jm_fr_rfl _ _)
/-- faces of an edge, the outer one parted -/
def g_ln (w h : Int) (sl : Int → Int) (hv : Int) (ih : Int → Int) (e : Int) : Int := if hv ≠ 0 ∧ g_lf w h sl e = 72 ∧ ih e ≠ 0 then 73 else g_lf w h sl e
def g_rn' (w h : Int) (sl : Int → Int) (hv : Int) (ih : Int → Int) (e : Int) : Int := if hv ≠ 0 ∧ g_rt w h sl e = 72 ∧ ih e ≠ 0 then 73 else g_rt w h sl e
theorem r_154 {w h : Int} {sl : Int → Int} {M : jm_Mem} (hg : g_sd w h) (hX : r_X w h sl M) {e : Int} (he : g_E w h sl e) (Q : jm_Q) : jm_cl 154 [jm_R 67, jm_I e] M Q ↔ Q (some (jm_I (g_ln w h sl (M 67 24) (M 76) e))) M := by
  refine jm_cl_e (fun Q h => sc_154 ?_) Q
  obtain ⟨b1, b2, -, -⟩ := g_Eb hg he
  rw [r_128 hg hX he]
  unfold g_ln at h
  refine ⟨_, rfl, fun a => ?_, fun a => ⟨fun b => ⟨b1, b2, fun c => ?_, fun c => ?_⟩, fun b => ?_⟩⟩
  · rwa [if_neg (fun q => q.1 a)] at h
  · rwa [if_neg (fun q => q.2.2 c)] at h
  · rwa [if_pos ⟨a, b, c⟩] at h
  · rwa [if_neg (fun q => b q.2.1)] at h
theorem r_155 {w h : Int} {sl : Int → Int} {M : jm_Mem} (hg : g_sd w h) (hX : r_X w h sl M) {e : Int} (he : g_E w h sl e) (Q : jm_Q) : jm_cl 155 [jm_R 67, jm_I e] M Q ↔ Q (some (jm_I (g_rn' w h sl (M 67 24) (M 76) e))) M := by
  refine jm_cl_e (fun Q h => sc_155 ?_) Q
  obtain ⟨b1, b2, -, -⟩ := g_Eb hg he
  rw [r_129 hg hX he]
  unfold g_rn' at h
  refine ⟨_, rfl, fun a => ?_, fun a => ⟨fun b => ⟨b1, b2, fun c => ?_, fun c => ?_⟩, fun b => ?_⟩⟩
  · rwa [if_neg (fun q => q.1 a)] at h
  · rwa [if_neg (fun q => q.2.2 c)] at h
  · rwa [if_pos ⟨a, b, c⟩] at h
  · rwa [if_neg (fun q => b q.2.1)] at h
theorem g_ln_b {w h : Int} {sl : Int → Int} (hg : g_ok w h sl) (hv : Int) (ih : Int → Int) {e : Int} (he : g_E w h sl e) : 0 ≤ g_ln w h sl hv ih e ∧ g_ln w h sl hv ih e < 74 ∧ 0 ≤ g_rn' w h sl hv ih e ∧ g_rn' w h sl hv ih e < 74 := by
  have h1 := g_lfF hg he
  have h2 := g_rtF hg he
  unfold g_ln g_rn'
  split <;> split <;> omega
