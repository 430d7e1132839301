section JS8
variable {p : Program} {l : Launch} {e : Env} {R : Room} {s : State} {mid : MethodId} {args : Array Value} {below : List Frame} {meth : Method} {c : Code}
variable {dC : Nat → ClassId} {dI : Nat → Nat → Nat} {cA : Nat → ClassId} {ad adV : Nat → Nat} {ids : List Nat} {A : Nat → Prop} {m : Nat} {FQ : State → Prop} {gc gs : Int} {scr : Int → Int}
variable {wc : Nat → List jm_V → jm_Mem → jm_Q → Prop} {w : jm_Cfg → Prop} {Q : jm_Q} {k : Nat} {ls : jm_Ls} {st : List jm_V} {M : jm_Mem} {a : Nat} {z : Int}
/-- a call of a String's own method: its link and its room -/
theorem jm_ck_bv {idx x : Nat} (hF : jm_F p R s mid args c dC dI cA ad adV ids A m) (hrc : jm_rc m k = some (.invokevirtual idx, x, z)) (hx : 216 ≤ x) : decode (jm_b m) (jm_bp m k) = .ok (.invokevirtual idx, 3) ∧ jm_bp m (k + 1) = jm_bp m k + 3 ∧ Cond.methodLink (jm_cn (jm_mi m).1) idx (jm_by x) ∈ jm_g ∧ 5 ≤ R.frames ∧ 160 ≤ R.locals := by
  obtain ⟨hd, hp, h2⟩ := jm_nx hrc (by simp) rfl
  have h2 : jm_ck2 m (.invokevirtual idx, x, z) = true := h2
  unfold jm_ck2 at h2
  dsimp only at h2
  have hb : Nat.blt x 216 = false := by
    cases hq : Nat.blt x 216 with
    | false => rfl
    | true => exact absurd (show x < 216 from Nat.le_of_ble_eq_true hq) (by omega)
  rw [hb] at h2
  dsimp only at h2
  rw [Bool.and_eq_true, Bool.and_eq_true] at h2
  obtain ⟨q, hq, e1, e2, e3⟩ := jm_any3 h2.1
  have g := jm_mb_ok q hq
  rw [e1, e2, e3] at g
  have b1 := Nat.le_of_ble_eq_true h2.2.1
  have b2 := Nat.le_of_ble_eq_true h2.2.2
  have f1 := hF.2.2.2.2.2.1
  have f2 := hF.2.2.2.2.2.2.1
  exact ⟨hd, hp, jm_in_g _ g rfl, by omega, by omega⟩
theorem jd_of_ctx {U : State} (h : jm_ctx dC dI cA ad adV A U U.heap) : jd_X ad adV A U := ⟨h.2.1, h.2.2.2.2.2.2.1, h.2.2.2.2.2.2.2.1⟩
theorem jd_len_ok : ∀ i, i < 6 → Int32.ofInt ((jm_str i).length : Int) = Int32.ofNat (jm_slen.getD i 0) ∧ (jm_str i).length ≤ 100 ∧ jm_slen.getD i 0 = (jm_str i).length := by decide +kernel
theorem js_strlen {idx c0 : Nat} {r : List jm_V} (hF : jm_F p R s mid args c dC dI cA ad adV ids A m) (hrc : jm_rc m k = some (.invokevirtual idx, 901, z)) (h1 : 200 ≤ c0) (h2 : c0 ≤ 205) (hft : jm_ft r 8 = true) (hcc : (M 999 0 - gc).toNat ≤ R.cells ∧ (M 999 1 - gs).toNat ≤ R.slots) (hG : jm_G p l e R s mid args below meth c dC dI cA ad ids A m FQ gc gs scr (k + 1, ls, .inl ((jm_str (c0 - 200)).length : Int) :: r, M)) : jm_G p l e R s mid args below meth c dC dI cA ad ids A m FQ gc gs scr (k, ls, .inr (.inl c0) :: r, M) := by
  obtain ⟨hd, hp, hlink, hfr, hlo⟩ := jm_ck_bv hF hrc (by decide)
  obtain ⟨i, rfl⟩ : ∃ i, c0 = 200 + i := ⟨c0 - 200, by omega⟩
  have hi : i < 6 := by omega
  rw [Nat.add_sub_cancel_left] at hG
  intro JL H locs g1 g2 g3 g4 g5 g6 g7 g8
  obtain ⟨l1, l2, -⟩ := jd_len_ok i hi
  refine jd_after (r1 := some (.int (Int32.ofNat (jm_slen.getD i 0)))) (va_runV (As := []) (rest := r.map (jm_val ad)) (b := ad (200 + i)) ⟨hF.1, hF.2.1, hF.2.2.1, hF.2.2.2.1, hF.2.2.2.2.1⟩ (jd_len l ad adV (va_A (jm_wd cA ad ids M) H.size) i hi) (cwV 0 hF.2.2.2.2.1 (jd_goodV (y := yJ0_length_8abf5) hlink (jm_in_g _ jd_t.2.2.2.1 rfl) (jm_in_g _ jd_t.2.2.2.2.1 rfl) (jm_in_g _ jd_t.1 rfl) (jm_in_g _ jd_c1 rfl)) rfl rfl rfl (by decide +kernel) ⟨Nat.le_trans (Nat.le_of_ble_eq_true rfl) hfr, Nat.le_trans (Nat.le_of_ble_eq_true rfl) hlo⟩) ⟨jd_blind, vk_recv (adK := fun i => ad (200 + i)) (i := i) hF.2.2.2.2.2.2.2.1.2.1 hi g5, fun U hU hW => ⟨rfl, jd_of_ctx (jm_PcOk hF g4 g5 U hU hW).2.2⟩⟩ rfl rfl g1.1 rfl (lv_room (jm_cat_le r hft)) hd hcc) ?_
  have := hG JL H locs g1 (jk_cons (v := .inl ((jm_str i).length : Int)) (by show jm_in _; unfold jm_in; omega) (jk_tl g2)) g3 g4 g5 g6 g7 g8
  dsimp only at this
  rw [hp] at this
  rw [← l1]
  exact this
theorem js_strchar {idx c0 : Nat} {i : Int} {r : List jm_V} (hF : jm_F p R s mid args c dC dI cA ad adV ids A m) (hrc : jm_rc m k = some (.invokevirtual idx, 902, z)) (h1 : 200 ≤ c0) (h2 : c0 ≤ 205) (hft : jm_ft r 8 = true) (hcc : (M 999 0 - gc).toNat ≤ R.cells ∧ (M 999 1 - gs).toNat ≤ R.slots) (hi0 : 0 ≤ i) (hi1 : i < ((jm_str (c0 - 200)).length : Int)) (hG : jm_G p l e R s mid args below meth c dC dI cA ad ids A m FQ gc gs scr (k + 1, ls, .inl (jm_chr (jm_str (c0 - 200)) i.toNat) :: r, M)) : jm_G p l e R s mid args below meth c dC dI cA ad ids A m FQ gc gs scr (k, ls, .inl i :: .inr (.inl c0) :: r, M) := by
  obtain ⟨hd, hp, hlink, hfr, hlo⟩ := jm_ck_bv hF hrc (by decide)
  obtain ⟨s0, rfl⟩ : ∃ s0, c0 = 200 + s0 := ⟨c0 - 200, by omega⟩
  have hs : s0 < 6 := by omega
  rw [Nat.add_sub_cancel_left] at hG hi1
  obtain ⟨j, rfl⟩ : ∃ j : Nat, i = (j : Int) := ⟨i.toNat, by omega⟩
  rw [Int.toNat_natCast] at hG
  obtain ⟨l1, l2, l3⟩ := jd_len_ok s0 hs
  have hj : j < jm_slen.getD s0 0 := by omega
  have hj2 : j < 100 := by omega
  obtain ⟨-, -, -, c4, c5⟩ := jd_ch_ok s0 hs j hj
  intro JL H locs g1 g2 g3 g4 g5 g6 g7 g8
  have hx0 : Int32.ofInt (j : Int) = nI j := by
    have : ∀ j, j < 100 → Int32.ofInt ((j : Nat) : Int) = nI j := by decide +kernel
    exact this j hj2
  dsimp only
  show W p l e R s mid args below meth c H locs _ _ FQ (F0 mid (jm_bp m k) JL (.int (Int32.ofInt (j : Int)) :: .ref (ad (200 + s0)) :: r.map (jm_val ad)))
  rw [hx0]
  refine jd_after (r1 := some (.int (jd_ch s0 j))) (va_runV (As := [.int (nI j)]) (rest := r.map (jm_val ad)) (b := ad (200 + s0)) ⟨hF.1, hF.2.1, hF.2.2.1, hF.2.2.2.1, hF.2.2.2.2.1⟩ (jd_char l ad adV (va_A (jm_wd cA ad ids M) H.size) s0 j hs hj hj2) (cwV 1 hF.2.2.2.2.1 (jd_goodV (y := yJ0_charAt_5068e) hlink (jm_in_g _ jd_t.2.2.2.2.2.2.2.2.2.1 rfl) (jm_in_g _ jd_t.2.2.2.2.2.2.2.2.2.2 rfl) (jm_in_g _ jd_t.1 rfl) (jm_in_g _ jd_c3 rfl)) rfl rfl rfl (by decide +kernel) ⟨Nat.le_trans (Nat.le_of_ble_eq_true rfl) hfr, Nat.le_trans (Nat.le_of_ble_eq_true rfl) hlo⟩) ⟨jd_blind, vk_recv (adK := fun i => ad (200 + i)) (i := s0) hF.2.2.2.2.2.2.2.1.2.1 hs g5, fun U hU hW => ⟨rfl, jd_of_ctx (jm_PcOk hF g4 g5 U hU hW).2.2⟩⟩ rfl rfl g1.1 rfl (lv_room (jm_cat_le r hft)) hd hcc) ?_
  have := hG JL H locs g1 (jk_cons (v := .inl (jm_chr (jm_str s0) j)) (by show jm_in _; unfold jm_in; omega) (jk_tl (jk_tl g2))) g3 g4 g5 g6 g7 g8
  dsimp only at this
  rw [hp] at this
  exact this
theorem jm_cap {n : Nat} {cf : jm_Cfg} (h : jm_wp n m cf Q) (hcap : ∀ r M', Q r M' → (M' 999 0 - gc).toNat ≤ R.cells ∧ (M' 999 1 - gs).toNat ≤ R.slots) : (cf.2.2.2 999 0 - gc).toNat ≤ R.cells ∧ (cf.2.2.2 999 1 - gs).toNat ≤ R.slots := by
  obtain ⟨r, M', hQ, hle⟩ := jm_wp_le _ _ _ _ h
  have := hcap r M' hQ
  have h1 := hle.1
  have h2 := hle.2.1
  omega
end JS8
