/-! TEXTS: numbers, lines -/
def y_wh (b : Int → Int) (n p lo hi : Int) : Except Int (Int × Int) :=
  if l_kd b n (l_st b n p) = 2 then
    if lo ≤ l_va b n (l_st b n p) ∧ l_va b n (l_st b n p) ≤ hi then .ok (l_va b n (l_st b n p), l_en b n (l_st b n p)) else .error (8 * l_st b n p + 2)
  else .error (8 * l_st b n p + 1)
theorem y_wh_ok {b : Int → Int} {n p lo hi v q : Int} (p1 : p ≤ n) (h : y_wh b n p lo hi = .ok (v, q)) : lo ≤ v ∧ v ≤ hi ∧ p ≤ q ∧ q ≤ n := by
  unfold y_wh at h
  have h1 : p ≤ l_st b n p ∧ l_st b n p ≤ n := l_sk_b (b := b) (P := l_w) (n := n) p p1
  have h2 : l_st b n p ≤ l_en b n (l_st b n p) ∧ l_en b n (l_st b n p) ≤ n := l_en_b (b := b) h1.2
  by_cases k : l_kd b n (l_st b n p) = 2
  · rw [if_pos k] at h
    by_cases z : lo ≤ l_va b n (l_st b n p) ∧ l_va b n (l_st b n p) ≤ hi
    · rw [if_pos z] at h
      injection h with h
      injection h with e1 e2
      rw [← e1, ← e2]
      exact ⟨z.1, z.2, by omega, h2.2⟩
    · rw [if_neg z] at h; cases h
  · rw [if_neg k] at h; cases h
theorem y_wh_er {b : Int → Int} {n p lo hi F : Int} (p0 : 0 ≤ p) (p1 : p ≤ n) (h : y_wh b n p lo hi = .error F) : 0 < F ∧ F ≤ 8 * n + 2 := by
  unfold y_wh at h
  have h1 := l_sk_b (b := b) (P := l_w) (n := n) p p1
  have h1 : p ≤ l_st b n p ∧ l_st b n p ≤ n := h1
  by_cases k : l_kd b n (l_st b n p) = 2
  · rw [if_pos k] at h
    by_cases z : lo ≤ l_va b n (l_st b n p) ∧ l_va b n (l_st b n p) ≤ hi
    · rw [if_pos z] at h; cases h
    · rw [if_neg z] at h
      injection h with h
      omega
  · rw [if_neg k] at h
    injection h with h
    omega
/-- which line it is -/
def y_wk (b : Int → Int) (n s : Int) : Int := if l_is b n s [108, 108, 97] then 4 else if l_is b n s [116, 104, 103, 105, 114] then 0 else if l_is b n s [110, 119, 111, 100] then 1 else if l_is b n s [104, 115, 97, 108, 115] then 2 else if l_is b n s [107, 99, 97, 98] then 3 else -1
abbrev y_L : Type := Int × Int × Int × Int × Int
/-- its places x and y -/
def y_xy (b : Int → Int) (n w h k q : Int) : Except Int (Int × Int × Int) :=
  if k = 4 then .ok (0, 0, q) else
  match y_wh b n q 0 (w - (if k = 1 then 1 else 2)) with
  | .error F => .error F
  | .ok (x, q1) => match y_wh b n q1 0 (h - (if k = 0 then 1 else 2)) with
    | .error F => .error F
    | .ok (y, q2) => .ok (x, y, q2)
/-- its bounds -/
def y_fg (b : Int → Int) (n q : Int) : Except Int (Int × Int × Int) :=
  match y_wh b n q (-99) 99 with
  | .error F => .error F
  | .ok (f, q1) => match y_wh b n q1 (-f) 99 with
    | .error F => .error F
    | .ok (g, q2) => .ok (f, g, q2)
def y_li (b : Int → Int) (n w h p : Int) : Except Int (y_L × Int) :=
  if y_wk b n (l_st b n p) < 0 then .error (8 * l_st b n p + 1) else
  match y_xy b n w h (y_wk b n (l_st b n p)) (l_en b n (l_st b n p)) with
  | .error F => .error F
  | .ok (x, y, q) => match y_fg b n q with
    | .error F => .error F
    | .ok (f, g, q1) => .ok ((y_wk b n (l_st b n p), x, y, f, g), q1)
/-- what a line tells -/
abbrev y_G : Type := (Int → Int) × (Int → Int) × (Int → Int)
def y_sl (w k x y : Int) (sl : Int → Int) : Int → Int := if k = 2 then jm_up sl (y * w + x) 1 else if k = 3 then jm_up sl (y * w + x) 2 else sl
abbrev y_on (w h k x y : Int) (sl : Int → Int) (e : Int) : Prop := if k = 4 then g_E w h sl e else e = 3 * (y * w + x) + (if k < 2 then k else 2)
def y_up (w h k x y : Int) (sl : Int → Int) (v : Int) (f : Int → Int) : Int → Int := fun e => if y_on w h k x y sl e then v else f e
def y_ap (w h : Int) (ln : y_L) (G : y_G) : y_G := (y_sl w ln.1 ln.2.1 ln.2.2.1 G.1, y_up w h ln.1 ln.2.1 ln.2.2.1 (y_sl w ln.1 ln.2.1 ln.2.2.1 G.1) ln.2.2.2.1 G.2.1, y_up w h ln.1 ln.2.1 ln.2.2.1 (y_sl w ln.1 ln.2.1 ln.2.2.1 G.1) ln.2.2.2.2 G.2.2)
abbrev y_tp (b : Int → Int) (n : Int) (M : jm_Mem) : Prop := M 66 = b ∧ M 65 2 = n
theorem y_tp_fe {b : Int → Int} {n : Int} {is : List Int} {M M' : jm_Mem} (hf : jm_fe is M M') (h2 : 2 ∉ is) (h : y_tp b n M) : y_tp b n M' := ⟨by rw [hf.1 66 (by decide)]; exact h.1, by rw [hf.2 2 h2]; exact h.2⟩
theorem p_70 {M : jm_Mem} {s k : Int} {Q : jm_Q} (hs : M 65 5 = s) (s0 : 0 ≤ s) (s1 : s ≤ 600) (k0 : 0 ≤ k) (k1 : k ≤ 2) (hQ : ∀ M', jm_fe [3, 4, 5, 6, 7] M M' → M' 65 7 = -2 - (8 * s + k) → Q (some (jm_I 0)) M') : jm_cl 70 [jm_R 65, jm_I k] M Q := by
  refine sc_70 ?_
  rw [hs]
  exact ⟨⟨by omega, by omega⟩, ⟨by omega, by omega⟩, ⟨by omega, by omega⟩, by omega, by omega, hQ _ (jm_fe_st (by decide)) (by rw [jm_s65, if_pos rfl])⟩
theorem p_69 {M : jm_Mem} {b : Int → Int} {n p lo hi : Int} {Q : jm_Q} (ht : y_tp b n M) (hby : l_by b) (n1 : n ≤ 600) (hp : M 65 3 = p) (p0 : 0 ≤ p) (p1 : p ≤ n) (hok : ∀ v q M', y_wh b n p lo hi = .ok (v, q) → jm_fe [3, 4, 5, 6, 7] M M' → M' 65 7 = M 65 7 → M' 65 3 = q → M' 65 6 = v → Q (some (jm_I 1)) M') (her : ∀ F M', y_wh b n p lo hi = .error F → jm_fe [3, 4, 5, 6, 7] M M' → M' 65 7 = -2 - F → Q (some (jm_I 0)) M') : jm_cl 69 [jm_R 65, jm_I lo, jm_I hi] M Q := by
  have h1 := l_sk_b (b := b) (P := l_w) (n := n) p p1
  have h1 : p ≤ l_st b n p ∧ l_st b n p ≤ n := h1
  refine sc_69 (p_71 ht.1 hby ht.2 n1 hp p0 p1 ?_)
  intro M1 hf1 hx
  obtain ⟨x4, x5, x30, x31, x3, x6⟩ := hx
  have f1 : jm_fe [3, 4, 5, 6, 7] M M1 := jm_fe_mo hf1 (by decide)
  unfold y_wh at hok her
  refine ⟨rfl, fun k => ?_, fun k => ?_⟩
  · rw [x4] at k
    rw [if_pos k] at hok her
    rw [x6 k]
    have bad : ¬ (lo ≤ l_va b n (l_st b n p) ∧ l_va b n (l_st b n p) ≤ hi) → jm_cl 70 [jm_R 65, jm_I 2] M1 (fun r M2 => ∃ r2 : Int, r = some (jm_I r2) ∧ (r2 = 0 → (0 : Int) ≤ 0 ∧ (0 : Int) ≤ 1 ∧ Q (some (jm_I 0)) M2) ∧ (¬ r2 = 0 → (0 : Int) ≤ 1 ∧ (1 : Int) ≤ 1 ∧ Q (some (jm_I 1)) M2)) := by
      intro z
      rw [if_neg z] at her
      refine p_70 x5 (by omega) (by omega) (by omega) (by omega) ?_
      intro M2 hf2 h7
      exact ⟨_, rfl, fun _ => ⟨by omega, by omega, her _ M2 rfl (jm_fe_tr f1 hf2) h7⟩, fun q => absurd rfl q⟩
    refine ⟨fun z => bad (by omega), fun z => ⟨fun y => bad (by omega), fun y => ⟨by omega, by omega, ?_⟩⟩⟩
    rw [if_pos (by omega)] at hok
    exact hok _ _ M1 rfl f1 (hf1.2 7 (by decide)) (x3 (by omega)) (x6 k)
  · rw [x4] at k
    rw [if_neg k] at her
    refine p_70 x5 (by omega) (by omega) (by omega) (by omega) ?_
    intro M2 hf2 h7
    exact ⟨_, rfl, by omega, by omega, her _ M2 rfl (jm_fe_tr f1 hf2) h7⟩
/-- the draft -/
def y_dr (w h : Int) (G : y_G) (M : jm_Mem) : Prop := M 16 4 = w ∧ M 16 5 = h ∧ (∀ v, 0 ≤ v → v < 36 → M 17 v = G.1 v) ∧ (∀ e, 0 ≤ e → e < 108 → M 18 e = G.2.1 e ∧ M 19 e = G.2.2 e) ∧ (∀ v, 0 ≤ v → v < 36 → M 20 v = 0)
theorem y_dr_fe {w h : Int} {G : y_G} {is : List Int} {M M' : jm_Mem} (hf : jm_fe is M M') (hd : y_dr w h G M) : y_dr w h G M' := by
  unfold y_dr at hd ⊢
  rw [hf.1 16 (by decide), hf.1 17 (by decide), hf.1 18 (by decide), hf.1 19 (by decide), hf.1 20 (by decide)]
  exact hd
/-- a grid that lines may make -/
def y_gd (w h : Int) (G : y_G) : Prop := g_ok w h G.1 ∧ (∀ e, -99 ≤ G.2.1 e ∧ G.2.1 e ≤ 99 ∧ -99 ≤ G.2.2 e ∧ G.2.2 e ≤ 99 ∧ 0 ≤ G.2.1 e + G.2.2 e) ∧ (∀ e, ¬ (0 ≤ e ∧ e < 108) → G.2.1 e = 0 ∧ G.2.2 e = 0)
def y_fl (M M' : jm_Mem) : Prop := ∀ c, c ≠ 65 → c ≠ 16 → c ≠ 17 → c ≠ 18 → c ≠ 19 → c ≠ 20 → M' c = M c
