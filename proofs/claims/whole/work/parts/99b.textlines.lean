/-! TEXTS: all lines -/
theorem l_en_1 {b : Int → Int} {n s : Int} (h : l_kd b n s = 1) : s + 1 ≤ l_en b n s := by
  by_cases h1 : n ≤ s
  · rw [(l_kd_0 (b := b) h1).1] at h; omega
  · by_cases h2 : l_l (b s) = true
    · rw [(l_kd_1 (by omega) h2).2, l_sk_y (by omega) h2]
      exact (l_sk_b (b := b) (P := l_l) (n := n) (s + 1) (by omega)).1
    · by_cases h3 : b s = 59
      · rw [(l_kd_3 (by omega) h3).1] at h; omega
      · rw [(l_kd_2 (by omega) (by simpa using h2) h3).1] at h
        by_cases h4 : 1 ≤ l_dn b n s ∧ l_dn b n s ≤ 3
        · rw [if_pos h4] at h; omega
        · rw [if_neg h4] at h; omega
theorem l_en_2 {b : Int → Int} {n s : Int} (h : l_kd b n s = 2) : s + 1 ≤ l_en b n s := by
  by_cases h1 : n ≤ s
  · rw [(l_kd_0 (b := b) h1).1] at h; omega
  · by_cases h2 : l_l (b s) = true
    · rw [(l_kd_1 (by omega) h2).1] at h; omega
    · by_cases h3 : b s = 59
      · rw [(l_kd_3 (by omega) h3).1] at h; omega
      · have h5 := l_kd_2 (b := b) (n := n) (s := s) (by omega) (by simpa using h2) h3
        rw [h5.1] at h
        rw [h5.2]
        have h6 := l_q_b (b := b) (n := n) (s := s) (by omega)
        by_cases h4 : 1 ≤ l_dn b n s ∧ l_dn b n s ≤ 3
        · unfold l_dn at h4; omega
        · rw [if_neg h4] at h; omega
theorem l_en_3 {b : Int → Int} {n s : Int} (h : l_kd b n s = 3) : l_en b n s = s + 1 ∧ s < n := by
  by_cases h1 : n ≤ s
  · rw [(l_kd_0 (b := b) h1).1] at h; omega
  · by_cases h2 : l_l (b s) = true
    · rw [(l_kd_1 (by omega) h2).1] at h; omega
    · by_cases h3 : b s = 59
      · exact ⟨(l_kd_3 (by omega) h3).2, by omega⟩
      · rw [(l_kd_2 (by omega) (by simpa using h2) h3).1] at h
        by_cases h4 : 1 ≤ l_dn b n s ∧ l_dn b n s ≤ 3
        · rw [if_pos h4] at h; omega
        · rw [if_neg h4] at h; omega
theorem l_st_b {b : Int → Int} {n p : Int} (p1 : p ≤ n) : p ≤ l_st b n p ∧ l_st b n p ≤ n := l_sk_b (b := b) (P := l_w) (n := n) p p1
theorem y_wh_1 {b : Int → Int} {n p lo hi v q : Int} (p1 : p ≤ n) (h : y_wh b n p lo hi = .ok (v, q)) : p + 1 ≤ q := by
  have hs := l_st_b (b := b) p1
  unfold y_wh at h
  by_cases hk : l_kd b n (l_st b n p) = 2
  · rw [if_pos hk] at h
    have he := l_en_2 hk
    by_cases hv : lo ≤ l_va b n (l_st b n p) ∧ l_va b n (l_st b n p) ≤ hi
    · rw [if_pos hv] at h
      injection h with h
      injection h with h1 h2
      omega
    · rw [if_neg hv] at h; cases h
  · rw [if_neg hk] at h; cases h
theorem y_xy_ok {b : Int → Int} {n w h k q x y q' : Int} (p1 : q ≤ n) (hh : y_xy b n w h k q = .ok (x, y, q')) : q ≤ q' ∧ q' ≤ n ∧ (k ≠ 4 → 0 ≤ x ∧ x ≤ w - (if k = 1 then 1 else 2) ∧ 0 ≤ y ∧ y ≤ h - (if k = 0 then 1 else 2)) := by
  unfold y_xy at hh
  by_cases k4 : k = 4
  · rw [if_pos k4] at hh
    injection hh with hh
    injection hh with h1 h2
    injection h2 with h2 h3
    exact ⟨by omega, by omega, fun z => absurd k4 z⟩
  · rw [if_neg k4] at hh
    cases h1 : y_wh b n q 0 (w - (if k = 1 then 1 else 2)) with
    | error F => rw [h1] at hh; cases hh
    | ok r =>
      obtain ⟨a, q1⟩ := r
      obtain ⟨b1, b2, b3, b4⟩ := y_wh_ok p1 h1
      rw [h1] at hh
      dsimp only at hh
      cases h2 : y_wh b n q1 0 (h - (if k = 0 then 1 else 2)) with
      | error F => rw [h2] at hh; cases hh
      | ok r =>
        obtain ⟨c, q2⟩ := r
        obtain ⟨c1, c2, c3, c4⟩ := y_wh_ok b4 h2
        rw [h2] at hh
        dsimp only at hh
        injection hh with hh
        injection hh with e1 e2
        injection e2 with e2 e3
        rw [← e1, ← e2]
        exact ⟨by omega, by omega, fun _ => ⟨b1, b2, c1, c2⟩⟩
theorem y_xy_er {b : Int → Int} {n w h k q F : Int} (p0 : 0 ≤ q) (p1 : q ≤ n) (hh : y_xy b n w h k q = .error F) : 0 < F ∧ F ≤ 8 * n + 2 := by
  unfold y_xy at hh
  by_cases k4 : k = 4
  · rw [if_pos k4] at hh; cases hh
  · rw [if_neg k4] at hh
    cases h1 : y_wh b n q 0 (w - (if k = 1 then 1 else 2)) with
    | error F' =>
      rw [h1] at hh
      dsimp only at hh
      injection hh with hh
      rw [← hh]
      exact y_wh_er p0 p1 h1
    | ok r =>
      obtain ⟨a, q1⟩ := r
      obtain ⟨b1, b2, b3, b4⟩ := y_wh_ok p1 h1
      rw [h1] at hh
      dsimp only at hh
      cases h2 : y_wh b n q1 0 (h - (if k = 0 then 1 else 2)) with
      | error F' =>
        rw [h2] at hh
        dsimp only at hh
        injection hh with hh
        rw [← hh]
        exact y_wh_er (by omega) b4 h2
      | ok r =>
        obtain ⟨c, q2⟩ := r
        rw [h2] at hh
        cases hh
theorem y_fg_ok {b : Int → Int} {n q f g q' : Int} (p1 : q ≤ n) (hh : y_fg b n q = .ok (f, g, q')) : q + 2 ≤ q' ∧ q' ≤ n ∧ (-99 ≤ f ∧ f ≤ 99) ∧ (-f ≤ g ∧ g ≤ 99) := by
  unfold y_fg at hh
  cases h1 : y_wh b n q (-99) 99 with
  | error F => rw [h1] at hh; cases hh
  | ok r =>
    obtain ⟨a, q1⟩ := r
    obtain ⟨b1, b2, b3, b4⟩ := y_wh_ok p1 h1
    have b5 := y_wh_1 p1 h1
    rw [h1] at hh
    dsimp only at hh
    cases h2 : y_wh b n q1 (-a) 99 with
    | error F => rw [h2] at hh; cases hh
    | ok r =>
      obtain ⟨c, q2⟩ := r
      obtain ⟨c1, c2, c3, c4⟩ := y_wh_ok b4 h2
      have c5 := y_wh_1 b4 h2
      rw [h2] at hh
      dsimp only at hh
      injection hh with hh
      injection hh with e1 e2
      injection e2 with e2 e3
      rw [← e1, ← e2]
      exact ⟨by omega, by omega, ⟨b1, b2⟩, c1, c2⟩
theorem y_fg_er {b : Int → Int} {n q F : Int} (p0 : 0 ≤ q) (p1 : q ≤ n) (hh : y_fg b n q = .error F) : 0 < F ∧ F ≤ 8 * n + 2 := by
  unfold y_fg at hh
  cases h1 : y_wh b n q (-99) 99 with
  | error F' =>
    rw [h1] at hh
    dsimp only at hh
    injection hh with hh
    rw [← hh]
    exact y_wh_er p0 p1 h1
  | ok r =>
    obtain ⟨a, q1⟩ := r
    obtain ⟨b1, b2, b3, b4⟩ := y_wh_ok p1 h1
    rw [h1] at hh
    dsimp only at hh
    cases h2 : y_wh b n q1 (-a) 99 with
    | error F' =>
      rw [h2] at hh
      dsimp only at hh
      injection hh with hh
      rw [← hh]
      exact y_wh_er (by omega) b4 h2
    | ok r =>
      obtain ⟨c, q2⟩ := r
      rw [h2] at hh
      cases hh
def y_ln (w h : Int) (ln : y_L) : Prop := (0 ≤ ln.1 ∧ ln.1 ≤ 4) ∧ (ln.1 ≠ 4 → 0 ≤ ln.2.1 ∧ ln.2.1 ≤ w - (if ln.1 = 1 then 1 else 2) ∧ 0 ≤ ln.2.2.1 ∧ ln.2.2.1 ≤ h - (if ln.1 = 0 then 1 else 2)) ∧ (-99 ≤ ln.2.2.2.1 ∧ ln.2.2.2.1 ≤ 99) ∧ (-ln.2.2.2.1 ≤ ln.2.2.2.2 ∧ ln.2.2.2.2 ≤ 99)
theorem y_ln_gd {w h : Int} {ln : y_L} {G : y_G} (hG : y_gd w h G) (hl : y_ln w h ln) : y_gd w h (y_ap w h ln G) := by
  obtain ⟨k, x, y, f, g⟩ := ln
  exact y_ap_gd hG hl.1 hl.2.1 hl.2.2.1 hl.2.2.2
theorem y_li_ok {b : Int → Int} {n w h p q : Int} {ln : y_L} (p1 : p ≤ n) (hh : y_li b n w h p = .ok (ln, q)) : p + 3 ≤ q ∧ q ≤ n ∧ y_ln w h ln := by
  have hs := l_st_b (b := b) p1
  have hen := l_en_b (b := b) hs.2
  have hwk := y_wk_b (b := b) (n := n) (s := l_st b n p)
  unfold y_li at hh
  by_cases z : y_wk b n (l_st b n p) < 0
  · rw [if_pos z] at hh; cases hh
  · rw [if_neg z] at hh
    have h1 := l_en_1 (hwk.2.2 (by omega))
    generalize y_wk b n (l_st b n p) = k at *
    cases h2 : y_xy b n w h k (l_en b n (l_st b n p)) with
    | error F => rw [h2] at hh; cases hh
    | ok r =>
      obtain ⟨x, y, q1⟩ := r
      obtain ⟨c1, c2, c3⟩ := y_xy_ok hen.2 h2
      rw [h2] at hh
      dsimp only at hh
      cases h3 : y_fg b n q1 with
      | error F => rw [h3] at hh; cases hh
      | ok r =>
        obtain ⟨f, g, q2⟩ := r
        obtain ⟨d1, d2, d3, d4⟩ := y_fg_ok c2 h3
        rw [h3] at hh
        dsimp only at hh
        injection hh with hh
        injection hh with e1 e2
        rw [← e1, ← e2]
        exact ⟨by omega, by omega, ⟨by omega, hwk.2.1⟩, c3, d3, d4⟩
theorem y_li_er {b : Int → Int} {n w h p F : Int} (p0 : 0 ≤ p) (p1 : p ≤ n) (hh : y_li b n w h p = .error F) : 0 < F ∧ F ≤ 8 * n + 2 := by
  have hs := l_st_b (b := b) p1
  have hen := l_en_b (b := b) hs.2
  unfold y_li at hh
  by_cases z : y_wk b n (l_st b n p) < 0
  · rw [if_pos z] at hh
    injection hh with hh
    omega
  · rw [if_neg z] at hh
    generalize y_wk b n (l_st b n p) = k at *
    cases h2 : y_xy b n w h k (l_en b n (l_st b n p)) with
    | error F' =>
      rw [h2] at hh
      dsimp only at hh
      injection hh with hh
      rw [← hh]
      exact y_xy_er (by omega) hen.2 h2
    | ok r =>
      obtain ⟨x, y, q1⟩ := r
      obtain ⟨c1, c2, c3⟩ := y_xy_ok hen.2 h2
      rw [h2] at hh
      dsimp only at hh
      cases h3 : y_fg b n q1 with
      | error F' =>
        rw [h3] at hh
        dsimp only at hh
        injection hh with hh
        rw [← hh]
        exact y_fg_er (by omega) c2 h3
      | ok r =>
        obtain ⟨f, g, q2⟩ := r
        rw [h3] at hh
        cases hh
/-- the lines from a place on -/
def y_ls (b : Int → Int) (n w h : Int) : Nat → Int → Except Int (List y_L)
  | 0, _ => .ok []
  | k + 1, p => if l_kd b n (l_st b n p) = 3 then
      match y_li b n w h (l_en b n (l_st b n p)) with
      | .error F => .error F
      | .ok (ln, q) => match y_ls b n w h k q with
        | .error F => .error F
        | .ok ls => .ok (ln :: ls)
    else if l_kd b n (l_st b n p) = 0 then .ok [] else .error (8 * l_st b n p + 1)
def y_fo (w h : Int) (G : y_G) (ls : List y_L) : y_G := ls.foldl (fun G ln => y_ap w h ln G) G
theorem y_ls_er {b : Int → Int} {n w h : Int} : ∀ (k : Nat) (p F : Int), 0 ≤ p → p ≤ n → y_ls b n w h k p = .error F → 0 < F ∧ F ≤ 8 * n + 2
  | 0, _, _, _, _, hh => by cases hh
  | k + 1, p, F, p0, p1, hh => by
    have hs := l_st_b (b := b) p1
    have hen := l_en_b (b := b) hs.2
    unfold y_ls at hh
    by_cases z : l_kd b n (l_st b n p) = 3
    · rw [if_pos z] at hh
      cases h2 : y_li b n w h (l_en b n (l_st b n p)) with
      | error F' =>
        rw [h2] at hh
        dsimp only at hh
        injection hh with hh
        rw [← hh]
        exact y_li_er (by omega) hen.2 h2
      | ok r =>
        obtain ⟨ln, q⟩ := r
        have h3 := y_li_ok hen.2 h2
        rw [h2] at hh
        dsimp only at hh
        cases h4 : y_ls b n w h k q with
        | error F' =>
          rw [h4] at hh
          dsimp only at hh
          injection hh with hh
          rw [← hh]
          exact y_ls_er k q F' (by omega) h3.2.1 h4
        | ok ls => rw [h4] at hh; cases hh
    · rw [if_neg z] at hh
      by_cases z0 : l_kd b n (l_st b n p) = 0
      · rw [if_pos z0] at hh; cases hh
      · rw [if_neg z0] at hh
        injection hh with hh
        omega
theorem y_ls_ok {b : Int → Int} {n w h : Int} : ∀ (k : Nat) (p : Int) (ls : List y_L), p ≤ n → y_ls b n w h k p = .ok ls → p + 4 * (ls.length : Int) ≤ n ∧ ∀ ln ∈ ls, y_ln w h ln
  | 0, p, ls, p1, hh => by
    unfold y_ls at hh
    injection hh with hh
    rw [← hh]
    exact ⟨by simpa using p1, fun _ h => absurd h List.not_mem_nil⟩
  | k + 1, p, ls, p1, hh => by
    have hs := l_st_b (b := b) p1
    have hen := l_en_b (b := b) hs.2
    unfold y_ls at hh
    by_cases z : l_kd b n (l_st b n p) = 3
    · rw [if_pos z] at hh
      have z3 := l_en_3 z
      cases h2 : y_li b n w h (l_en b n (l_st b n p)) with
      | error F' => rw [h2] at hh; cases hh
      | ok r =>
        obtain ⟨ln, q⟩ := r
        have h3 := y_li_ok hen.2 h2
        rw [h2] at hh
        dsimp only at hh
        cases h4 : y_ls b n w h k q with
        | error F' => rw [h4] at hh; cases hh
        | ok ls' =>
          have h5 := y_ls_ok k q ls' h3.2.1 h4
          rw [h4] at hh
          dsimp only at hh
          injection hh with hh
          rw [← hh]
          refine ⟨?_, fun l hl => ?_⟩
          · rw [List.length_cons]
            have h6 := h5.1
            omega
          · rcases List.mem_cons.1 hl with e | hl
            · rw [e]; exact h3.2.2
            · exact h5.2 l hl
    · rw [if_neg z] at hh
      by_cases z0 : l_kd b n (l_st b n p) = 0
      · rw [if_pos z0] at hh
        injection hh with hh
        rw [← hh]
        exact ⟨by simpa using p1, fun _ h => absurd h List.not_mem_nil⟩
      · rw [if_neg z0] at hh; cases hh
theorem y_fo_gd {w h : Int} : ∀ (ls : List y_L) (G : y_G), y_gd w h G → (∀ ln ∈ ls, y_ln w h ln) → y_gd w h (y_fo w h G ls)
  | [], _, hG, _ => hG
  | ln :: ls, G, hG, hl => y_fo_gd ls (y_ap w h ln G) (y_ln_gd hG (hl ln (List.mem_cons_self ..))) (fun l h => hl l (List.mem_cons_of_mem _ h))
/-- the head of a text -/
def y_hd (b : Int → Int) (n : Int) : Except Int (Int × Int × Int) :=
  if l_is b n (l_st b n 0) [100, 105, 114, 103] then
    match y_wh b n (l_en b n (l_st b n 0)) 2 6 with
    | .error F => .error F
    | .ok (w, q) => match y_wh b n q 2 6 with
      | .error F => .error F
      | .ok (h, q1) => .ok (w, h, q1)
  else .error (8 * l_st b n 0 + 1)
def y_tx (b : Int → Int) (n : Int) : Except Int (Int × Int × List y_L) :=
  match y_hd b n with
  | .error F => .error F
  | .ok (w, h, q) => match y_ls b n w h 601 q with
    | .error F => .error F
    | .ok ls => .ok (w, h, ls)
def y_0 : y_G := (fun _ => 0, fun _ => 0, fun _ => 0)
theorem y_0_gd {w h : Int} (hg : g_sd w h) : y_gd w h y_0 := ⟨⟨hg, fun _ => ⟨by show (0 : Int) ≤ 0; omega, by show (0 : Int) ≤ 2; omega, fun z => absurd rfl z⟩⟩, fun _ => ⟨by show (-99 : Int) ≤ 0; omega, by show (0 : Int) ≤ 99; omega, by show (-99 : Int) ≤ 0; omega, by show (0 : Int) ≤ 99; omega, by show (0 : Int) ≤ 0 + 0; omega⟩, fun _ _ => ⟨rfl, rfl⟩⟩
theorem y_hd_ok {b : Int → Int} {n w h q : Int} (n0 : 0 ≤ n) (hh : y_hd b n = .ok (w, h, q)) : g_sd w h ∧ 0 ≤ q ∧ q ≤ n := by
  have hs := l_st_b (b := b) n0
  have hen := l_en_b (b := b) hs.2
  unfold y_hd at hh
  by_cases z : l_is b n (l_st b n 0) [100, 105, 114, 103]
  · rw [if_pos z] at hh
    cases h1 : y_wh b n (l_en b n (l_st b n 0)) 2 6 with
    | error F => rw [h1] at hh; cases hh
    | ok r =>
      obtain ⟨a, q1⟩ := r
      obtain ⟨b1, b2, b3, b4⟩ := y_wh_ok hen.2 h1
      rw [h1] at hh
      dsimp only at hh
      cases h2 : y_wh b n q1 2 6 with
      | error F => rw [h2] at hh; cases hh
      | ok r =>
        obtain ⟨c, q2⟩ := r
        obtain ⟨c1, c2, c3, c4⟩ := y_wh_ok b4 h2
        rw [h2] at hh
        dsimp only at hh
        injection hh with hh
        injection hh with e1 e2
        injection e2 with e2 e3
        rw [← e1, ← e2, ← e3]
        exact ⟨⟨b1, b2, c1, c2⟩, by omega, c4⟩
  · rw [if_neg z] at hh; cases hh
theorem y_hd_er {b : Int → Int} {n F : Int} (n0 : 0 ≤ n) (hh : y_hd b n = .error F) : 0 < F ∧ F ≤ 8 * n + 2 := by
  have hs := l_st_b (b := b) n0
  have hen := l_en_b (b := b) hs.2
  unfold y_hd at hh
  by_cases z : l_is b n (l_st b n 0) [100, 105, 114, 103]
  · rw [if_pos z] at hh
    cases h1 : y_wh b n (l_en b n (l_st b n 0)) 2 6 with
    | error F' =>
      rw [h1] at hh
      dsimp only at hh
      injection hh with hh
      rw [← hh]
      exact y_wh_er (by omega) hen.2 h1
    | ok r =>
      obtain ⟨a, q1⟩ := r
      obtain ⟨b1, b2, b3, b4⟩ := y_wh_ok hen.2 h1
      rw [h1] at hh
      dsimp only at hh
      cases h2 : y_wh b n q1 2 6 with
      | error F' =>
        rw [h2] at hh
        dsimp only at hh
        injection hh with hh
        rw [← hh]
        exact y_wh_er (by omega) b4 h2
      | ok r =>
        obtain ⟨c, q2⟩ := r
        rw [h2] at hh
        cases hh
  · rw [if_neg z] at hh
    injection hh with hh
    omega
theorem y_tx_er {b : Int → Int} {n F : Int} (n0 : 0 ≤ n) (hh : y_tx b n = .error F) : 0 < F ∧ F ≤ 8 * n + 2 := by
  unfold y_tx at hh
  cases h1 : y_hd b n with
  | error F' =>
    rw [h1] at hh
    dsimp only at hh
    injection hh with hh
    rw [← hh]
    exact y_hd_er n0 h1
  | ok r =>
    obtain ⟨w, h, q⟩ := r
    have h2 := y_hd_ok n0 h1
    rw [h1] at hh
    dsimp only at hh
    cases h3 : y_ls b n w h 601 q with
    | error F' =>
      rw [h3] at hh
      dsimp only at hh
      injection hh with hh
      rw [← hh]
      exact y_ls_er 601 q F' h2.2.1 h2.2.2 h3
    | ok ls => rw [h3] at hh; cases hh
theorem y_tx_ok {b : Int → Int} {n w h : Int} {ls : List y_L} (n0 : 0 ≤ n) (hh : y_tx b n = .ok (w, h, ls)) : g_sd w h ∧ 4 * (ls.length : Int) ≤ n ∧ ∀ ln ∈ ls, y_ln w h ln := by
  unfold y_tx at hh
  cases h1 : y_hd b n with
  | error F' => rw [h1] at hh; cases hh
  | ok r =>
    obtain ⟨w', h', q⟩ := r
    have h2 := y_hd_ok n0 h1
    rw [h1] at hh
    dsimp only at hh
    cases h3 : y_ls b n w' h' 601 q with
    | error F' => rw [h3] at hh; cases hh
    | ok ls' =>
      rw [h3] at hh
      dsimp only at hh
      have h4 := y_ls_ok 601 q ls' h2.2.2 h3
      injection hh with hh
      injection hh with e1 e2
      injection e2 with e2 e3
      rw [← e1, ← e2, ← e3]
      exact ⟨h2.1, by omega, h4.2⟩
