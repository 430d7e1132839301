/-! TEXTS: the reference scans -/
abbrev l_rb (b : Int → Int) (n : Int) (M : jm_Mem) : Prop := ∀ v, 0 ≤ v → v < n → M 72 v = b v
/-- the byte as the reference sees it -/
def l_at (b : Int → Int) (n x : Int) : Int := if x < n then b x % 256 else -1
theorem e_135 {M : jm_Mem} {b : Int → Int} {n x : Int} (hb : l_rb b n M) (hn : M 67 9 = n) (n1 : n ≤ 600) (x0 : 0 ≤ x) (Q : jm_Q) : jm_cl 135 [jm_R 67, jm_I x] M Q ↔ Q (some (jm_I (l_at b n x))) M := by
  refine jm_cl_e (fun Q h => sc_135 ?_) Q
  rw [hn]
  unfold l_at at h
  refine ⟨fun p => ⟨x0, by omega, by omega, ?_⟩, fun p => ?_⟩
  · rw [if_pos p] at h
    rw [hb x x0 p]; exact h
  · rwa [if_neg p] at h
theorem e_136 {M : jm_Mem} (x : Int) (Q : jm_Q) : jm_cl 136 [jm_I x] M Q ↔ Q (some (jm_I (jm_B (97 ≤ x ∧ x ≤ 122)))) M := by
  refine jm_cl_e (fun Q h => sc_136 ?_) Q
  rw [e_119]
  exact ⟨_, rfl, jm_Bb.1, jm_Bb.2, h⟩
theorem e_137 {M : jm_Mem} (x : Int) (Q : jm_Q) : jm_cl 137 [jm_I x] M Q ↔ Q (some (jm_I (jm_B (48 ≤ x ∧ x ≤ 57)))) M := by
  refine jm_cl_e (fun Q h => sc_137 ?_) Q
  rw [e_119]
  exact ⟨_, rfl, jm_Bb.1, jm_Bb.2, h⟩
theorem l_at_c {b : Int → Int} {n x : Int} (hby : l_by b) : (x < n ∧ l_at b n x = b x % 256) ∨ (¬ x < n ∧ l_at b n x = -1) := by
  unfold l_at
  by_cases q : x < n
  · rw [if_pos q]; exact Or.inl ⟨q, rfl⟩
  · rw [if_neg q]; exact Or.inr ⟨q, rfl⟩
theorem l_at_l {b : Int → Int} {n x : Int} (hby : l_by b) : (97 ≤ l_at b n x ∧ l_at b n x ≤ 122) ↔ x < n ∧ l_l (b x) = true := by
  have h1 := hby x
  have hl : l_l (b x) = true ↔ 97 ≤ b x ∧ b x ≤ 122 := by unfold l_l; rw [decide_eq_true_iff]
  rw [hl]
  rcases l_at_c (n := n) (x := x) hby with q | q <;> omega
theorem l_at_d {b : Int → Int} {n x : Int} (hby : l_by b) : (48 ≤ l_at b n x ∧ l_at b n x ≤ 57) ↔ x < n ∧ l_d (b x) = true := by
  have h1 := hby x
  have hl : l_d (b x) = true ↔ 48 ≤ b x ∧ b x ≤ 57 := by unfold l_d; rw [decide_eq_true_iff]
  rw [hl]
  rcases l_at_c (n := n) (x := x) hby with q | q <;> omega
theorem l_at_e {b : Int → Int} {n x k : Int} (hby : l_by b) (k0 : 0 ≤ k) (k1 : k ≤ 127) : l_at b n x = k ↔ x < n ∧ b x = k := by
  have h1 := hby x
  rcases l_at_c (n := n) (x := x) hby with q | q <;> omega
theorem jm_s67 (M : jm_Mem) (i v j : Int) : jm_st M 67 i v 67 j = if j = i then v else M 67 j := rfl
theorem p_138 {M : jm_Mem} {b : Int → Int} {n s : Int} {Q : jm_Q} (hb : l_rb b n M) (hby : l_by b) (hn : M 67 9 = n) (n1 : n ≤ 600) (hs : M 67 11 = s) (s0 : 0 ≤ s) (s1 : s < n) (hQ : ∀ M', jm_fx [] [11, 12, 13] M M' → M' 67 11 = l_sk b l_d n (l_q b s) → (M' 67 12 = if 3 < l_dn b n s then 4 else 2) → (l_dn b n s ≤ 3 → M' 67 13 = l_va b n s) → Q none M') : jm_cl 138 [jm_R 67] M Q := by
  have hq := l_q_b (b := b) s1
  have hE := l_sk_b (b := b) (P := l_d) (n := n) (l_q b s) hq.2
  have L : ∀ v, v ≤ n → l_q b s ≤ v → ∀ (x1 : Int) (M1 : jm_Mem), jm_fx [] [11, 12, 13] M M1 → M1 67 11 = v → M1 67 13 = l_dv b (l_q b s) (if v - l_q b s ≤ 3 then v - l_q b s else 3).toNat → l_sk b l_d n (l_q b s) = l_sk b l_d n v → (∀ u, l_q b s ≤ u → u < v → l_d (b u) = true) → (x1 = if b s = 45 then 1 else 0) → jm_run 138 (26, [some (jm_R 67), some (jm_I x1), some (jm_I (l_q b s))], [], M1) Q := by
    refine jm_dn ?_
    intro v hv ih qv x1 M1 hf h11 h13 hsk hdg hx1
    have hb1 : l_rb b n M1 := fun u u0 u1 => by rw [hf.1 72 (by decide) (by decide)]; exact hb u u0 u1
    have m9 : M1 67 9 = n := by rw [hf.2 9 (by decide)]; exact hn
    have hkk : (if v - l_q b s ≤ 3 then v - l_q b s else 3).toNat ≤ 3 ∧ ((if v - l_q b s ≤ 3 then v - l_q b s else 3).toNat : Int) ≤ v - l_q b s := by
      by_cases z : v - l_q b s ≤ 3
      · rw [if_pos z]; omega
      · rw [if_neg z]; omega
    have hdb := l_dv_b (b := b) (q := l_q b s) (if v - l_q b s ≤ 3 then v - l_q b s else 3).toNat (by omega) (fun u u0 u1 => hdg u u0 (by omega))
    rw [← h13] at hdb
    refine sg_138_26 ?_
    rw [h11, e_135 hb1 m9 n1 (by omega)]
    refine ⟨_, rfl, ?_⟩
    rw [e_137]
    refine ⟨_, rfl, fun z => ?_, fun z => ?_⟩
    · rw [jm_B0, l_at_d hby] at z
      have he : l_sk b l_d n (l_q b s) = v := by
        rw [hsk]
        by_cases q : v < n
        · refine l_sk_n ?_
          rw [← Bool.not_eq_true]
          exact fun y => z ⟨q, y⟩
        · exact l_sk_z (by omega)
      have hdn : l_dn b n s = v - l_q b s := by unfold l_dn; rw [he]
      have hva : l_dn b n s ≤ 3 → l_va b n s = if b s = 45 then -(M1 67 13) else M1 67 13 := by
        intro t
        unfold l_va
        rw [h13, hdn, if_pos (c := v - l_q b s ≤ 3) (by omega)]
      refine ⟨fun x => ?_, fun x => ?_⟩
      · have hns : ¬ b s = 45 := fun y => by rw [if_pos y] at hx1; omega
        have c11 : jm_st M1 67 13 (M1 67 13) 67 11 = v := by rw [jm_s67, if_neg (by omega)]; exact h11
        rw [c11]
        refine ⟨⟨by omega, by omega⟩, fun y => hQ _ (jm_fx_tr hf (jm_fx_tr (jm_fx_sx (by decide)) (jm_fx_sx (by decide)))) ?_ ?_ (fun t => by omega), fun y => hQ _ (jm_fx_tr hf (jm_fx_tr (jm_fx_sx (by decide)) (jm_fx_sx (by decide)))) ?_ ?_ (fun t => ?_)⟩
        · rw [jm_s67, if_neg (by omega), c11, he]
        · rw [jm_s67, if_pos rfl, if_pos (by omega)]
        · rw [jm_s67, if_neg (by omega), c11, he]
        · rw [jm_s67, if_pos rfl, if_neg (by omega)]
        · rw [jm_s67, if_neg (by omega), jm_s67, if_pos rfl, hva t, if_neg hns]
      · have hns : b s = 45 := by
          by_cases y : b s = 45
          · exact y
          · rw [if_neg y] at hx1; exact absurd hx1 x
        have c11 : jm_st M1 67 13 (-(M1 67 13)) 67 11 = v := by rw [jm_s67, if_neg (by omega)]; exact h11
        rw [c11]
        refine ⟨⟨by omega, by omega⟩, ⟨by omega, by omega⟩, fun y => hQ _ (jm_fx_tr hf (jm_fx_tr (jm_fx_sx (by decide)) (jm_fx_sx (by decide)))) ?_ ?_ (fun t => by omega), fun y => hQ _ (jm_fx_tr hf (jm_fx_tr (jm_fx_sx (by decide)) (jm_fx_sx (by decide)))) ?_ ?_ (fun t => ?_)⟩
        · rw [jm_s67, if_neg (by omega), c11, he]
        · rw [jm_s67, if_pos rfl, if_pos (by omega)]
        · rw [jm_s67, if_neg (by omega), c11, he]
        · rw [jm_s67, if_pos rfl, if_neg (by omega)]
        · rw [jm_s67, if_neg (by omega), jm_s67, if_pos rfl, hva t, if_pos hns]
    · have z := jm_Bn.1 z
      rw [l_at_d hby] at z
      obtain ⟨z1, z2⟩ := z
      have hd := of_decide_eq_true z2
      have ih := ih z1 (by omega) x1
      have hdg' : ∀ u, l_q b s ≤ u → u < v + 1 → l_d (b u) = true := by
        intro u u0 u1
        by_cases w : u = v
        · rw [w]; exact z2
        · exact hdg u u0 (by omega)
      rw [h11]
      refine ⟨⟨by omega, by omega⟩, fun y => ⟨⟨by omega, by omega⟩, ?_⟩, fun y => ?_⟩
      · rw [e_135 hb1 m9 n1 (by omega)]
        refine ⟨_, rfl, ?_⟩
        have hat : l_at b n v = b v := (l_at_e hby (by omega) (by omega)).2 ⟨z1, rfl⟩
        rw [hat]
        have c11 : jm_st M1 67 13 (10 * M1 67 13 + b v - 48) 67 11 = v := by rw [jm_s67, if_neg (by omega)]; exact h11
        rw [c11]
        rw [if_pos (by omega)] at h13
        refine ⟨⟨by omega, by omega⟩, ⟨by omega, by omega⟩, ⟨by omega, by omega⟩, ih _ (jm_fx_tr hf (jm_fx_tr (jm_fx_sx (by decide)) (jm_fx_sx (by decide)))) ?_ ?_ ?_ hdg' hx1⟩
        · rw [jm_s67, if_pos rfl]
        · rw [jm_s67, if_neg (by omega), jm_s67, if_pos rfl, if_pos (by omega), h13, show (v + 1 - l_q b s).toNat = (v - l_q b s).toNat + 1 by omega]
          show _ = 10 * l_dv b (l_q b s) (v - l_q b s).toNat + (b (l_q b s + ((v - l_q b s).toNat : Int)) - 48)
          rw [show l_q b s + ((v - l_q b s).toNat : Int) = v by omega]
          omega
        · rw [hsk, l_sk_y z1 z2]
      · have c11 : jm_st M1 67 13 (M1 67 13) 67 11 = v := by rw [jm_s67, if_neg (by omega)]; exact h11
        rw [c11]
        refine ⟨⟨by omega, by omega⟩, ih _ (jm_fx_tr hf (jm_fx_tr (jm_fx_sx (by decide)) (jm_fx_sx (by decide)))) ?_ ?_ ?_ hdg' hx1⟩
        · rw [jm_s67, if_pos rfl]
        · rw [jm_s67, if_neg (by omega), jm_s67, if_pos rfl, h13, if_neg (c := v + 1 - l_q b s ≤ 3) (by omega)]
          by_cases w : v - l_q b s ≤ 3
          · rw [if_pos w, show v - l_q b s = 3 by omega]
          · rw [if_neg w]
        · rw [hsk, l_sk_y z1 z2]
  refine sc_138 ?_
  rw [hs, e_135 hb hn n1 s0]
  rw [hs]
  refine ⟨_, rfl, fun q => ?_, fun q => ?_⟩
  · have q := ((l_at_e (n := n) (x := s) hby (by omega) (by omega)).1 q).2
    have e : l_q b s = s + 1 := if_pos q
    refine ⟨fun z => by omega, fun _ => ⟨⟨by omega, by omega⟩, ?_⟩⟩
    rw [jm_s67, if_pos rfl, ← e]
    refine L (l_q b s) hq.2 (by omega) 1 _ (jm_fx_tr (jm_fx_sx (by decide)) (jm_fx_sx (by decide))) ?_ ?_ rfl (fun u u0 u1 => by omega) (if_pos q).symm
    · rw [jm_s67, if_neg (by omega), jm_s67, if_pos rfl]
    · rw [jm_s67, if_pos rfl, if_pos (by omega), show (l_q b s - l_q b s).toNat = 0 by omega]; rfl
  · have q : ¬ b s = 45 := fun y => q ((l_at_e (n := n) (x := s) hby (by omega) (by omega)).2 ⟨s1, y⟩)
    have e : l_q b s = s := if_neg q
    refine ⟨fun _ => ⟨⟨by omega, by omega⟩, ?_⟩, fun z => absurd rfl z⟩
    rw [jm_s67, if_pos rfl, Int.add_zero]
    refine (congrArg (fun x => jm_run 138 (26, [some (jm_R 67), some (jm_I 0), some (jm_I x)], [], jm_st (jm_st M 67 11 s) 67 13 0) Q) e).mp (L (l_q b s) hq.2 (by omega) 0 _ (jm_fx_tr (jm_fx_sx (by decide)) (jm_fx_sx (by decide))) ?_ ?_ rfl (fun u u0 u1 => by omega) (if_neg q).symm)
    · rw [jm_s67, if_neg (by omega), jm_s67, if_pos rfl, e]
    · rw [jm_s67, if_pos rfl, if_pos (by omega), show (l_q b s - l_q b s).toNat = 0 by omega]; rfl
