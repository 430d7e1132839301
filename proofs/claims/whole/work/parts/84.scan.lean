/-! TEXTS: the class scans -/
def jm_fe (is : List Int) (M M' : jm_Mem) : Prop := (∀ c, c ≠ 65 → M' c = M c) ∧ (∀ i, i ∉ is → M' 65 i = M 65 i)
theorem jm_fe_rfl (is : List Int) (M : jm_Mem) : jm_fe is M M := ⟨fun _ _ => rfl, fun _ _ => rfl⟩
theorem jm_fe_tr {is : List Int} {M M1 M2 : jm_Mem} (h1 : jm_fe is M M1) (h2 : jm_fe is M1 M2) : jm_fe is M M2 := ⟨fun c a => (h2.1 c a).trans (h1.1 c a), fun i a => (h2.2 i a).trans (h1.2 i a)⟩
theorem jm_fe_mo {is js : List Int} {M M1 : jm_Mem} (h1 : jm_fe is M M1) (h : ∀ i ∈ is, i ∈ js) : jm_fe js M M1 := ⟨h1.1, fun i p => h1.2 i (fun r => p (h i r))⟩
theorem jm_fe_st {is : List Int} {M : jm_Mem} {i v : Int} (h : i ∈ is) : jm_fe is M (jm_st M 65 i v) := ⟨fun d hd => if_neg hd, fun j hj => by rw [jm_st_e, if_pos rfl, jm_up_o (fun q => hj (by rw [q]; exact h))]⟩
theorem jm_s65 (M : jm_Mem) (i v j : Int) : jm_st M 65 i v 65 j = if j = i then v else M 65 j := rfl
theorem e_73 {M : jm_Mem} {b : Int → Int} {n x : Int} (hb : M 66 = b) (n1 : n ≤ 600) (x0 : 0 ≤ x) (x1 : x < n) (Q : jm_Q) : jm_cl 73 [jm_R 65, jm_I x] M Q ↔ Q (some (jm_I (jm_B (l_l (b x) = true)))) M := by
  refine jm_cl_e (fun Q h => sc_73 ?_) Q
  rw [hb]
  have hl : l_l (b x) = true ↔ 97 ≤ b x ∧ b x ≤ 122 := by unfold l_l; rw [decide_eq_true_iff]
  refine ⟨x0, by omega, fun q => ⟨by omega, by omega, ?_⟩, fun q => ⟨x0, by omega, fun r => ⟨by omega, by omega, ?_⟩, fun r => ⟨by omega, by omega, ?_⟩⟩⟩
  · rwa [jm_Bf (by rw [hl]; omega)] at h
  · rwa [jm_Bf (by rw [hl]; omega)] at h
  · rwa [jm_Bt (by rw [hl]; omega)] at h
theorem p_72 {M : jm_Mem} {b : Int → Int} {n s : Int} {Q : jm_Q} (hb : M 66 = b) (hby : l_by b) (hn : M 65 2 = n) (n1 : n ≤ 600) (hs : M 65 3 = s) (s0 : 0 ≤ s) (s1 : s < n) (hQ : ∀ M', jm_fe [3, 6] M M' → 0 ≤ M' 65 3 → M' 65 3 ≤ n → (1 ≤ l_dn b n s ∧ l_dn b n s ≤ 3 → M' 65 3 = l_sk b l_d n (l_q b s) ∧ M' 65 6 = l_va b n s) → Q (some (jm_I (jm_B (1 ≤ l_dn b n s ∧ l_dn b n s ≤ 3)))) M') : jm_cl 72 [jm_R 65] M Q := by
  have hq := l_q_b (b := b) s1
  have hE := l_sk_b (b := b) (P := l_d) (n := n) (l_q b s) hq.2
  have L : ∀ (j k : Nat), j + k = 4 → ∀ (x1 : Int) (M1 : jm_Mem), jm_fe [3, 6] M M1 → M1 65 3 = l_q b s + k → M1 65 6 = l_dv b (l_q b s) k → l_sk b l_d n (l_q b s) = l_sk b l_d n (l_q b s + k) → l_q b s + k ≤ n → (∀ v, l_q b s ≤ v → v < l_q b s + k → l_d (b v) = true) → (x1 = if b s = 45 then 1 else 0) → jm_run 72 (24, [some (jm_R 65), some (jm_I x1), some (jm_I (k : Int))], [], M1) Q := by
    intro j
    induction j with
    | zero =>
      intro k hk x1 M1 hf h3 h6 hsk hle hdg hx1
      obtain rfl : k = 4 := by omega
      have m66 : M1 66 = b := by rw [hf.1 66 (by decide)]; exact hb
      have m2 : M1 65 2 = n := by rw [hf.2 2 (by decide)]; exact hn
      have hdb := l_dv_b (b := b) (q := l_q b s) 4 (by omega) hdg
      have hE2 := l_sk_b (b := b) (P := l_d) (n := n) (l_q b s + (4 : Nat)) hle
      have hdn : ¬ (1 ≤ l_dn b n s ∧ l_dn b n s ≤ 3) := by unfold l_dn; omega
      have fin : jm_run 72 (68, [some (jm_R 65), some (jm_I x1), some (jm_I ((4 : Nat) : Int))], [], M1) Q := by
        rw [jm_Bf hdn] at hQ
        refine sg_72_68 ⟨fun _ => ⟨fun z => by omega, fun _ => ⟨fun _ => ?_, fun z => by omega⟩⟩, fun _ => ⟨⟨by omega, by omega⟩, fun z => by omega, fun _ => ⟨fun _ => ?_, fun z => by omega⟩⟩⟩
        · exact sg_72_83 ⟨by omega, by omega, hQ M1 hf (by omega) (by omega) (fun z => absurd z hdn)⟩
        · refine sg_72_83 ⟨by omega, by omega, hQ _ (jm_fe_tr hf (jm_fe_st (by decide))) ?_ ?_ (fun z => absurd z hdn)⟩
          · rw [jm_s65, if_neg (by omega)]; omega
          · rw [jm_s65, if_neg (by omega)]; omega
      refine sg_72_24 ⟨fun z => ⟨by omega, by omega, fun _ => fin, fun _ => ⟨by omega, by omega, fun _ => fin, fun _ => ⟨fun _ => fin, fun z => by omega⟩⟩⟩, fun _ => fin⟩
    | succ j ih =>
      intro k hk x1 M1 hf h3 h6 hsk hle hdg hx1
      have m66 : M1 66 = b := by rw [hf.1 66 (by decide)]; exact hb
      have m2 : M1 65 2 = n := by rw [hf.2 2 (by decide)]; exact hn
      have hdb := l_dv_b (b := b) (q := l_q b s) k (by omega) hdg
      have fin : l_sk b l_d n (l_q b s) = l_q b s + k → jm_run 72 (68, [some (jm_R 65), some (jm_I x1), some (jm_I (k : Int))], [], M1) Q := by
        intro he
        have hdn : l_dn b n s = k := by unfold l_dn; omega
        by_cases hk1 : k = 0
        · rw [jm_Bf (by omega)] at hQ
          refine sg_72_68 ⟨fun _ => ⟨fun z => ?_, fun z => by omega⟩, fun _ => ⟨⟨by omega, by omega⟩, fun z => ?_, fun z => by omega⟩⟩
          · exact sg_72_83 ⟨by omega, by omega, hQ M1 hf (by omega) (by omega) (fun z => by omega)⟩
          · refine sg_72_83 ⟨by omega, by omega, hQ _ (jm_fe_tr hf (jm_fe_st (by decide))) ?_ ?_ (fun z => by omega)⟩
            · rw [jm_s65, if_neg (by omega)]; omega
            · rw [jm_s65, if_neg (by omega)]; omega
        · rw [jm_Bt (by omega)] at hQ
          have hva : l_va b n s = if b s = 45 then -(l_dv b (l_q b s) k) else l_dv b (l_q b s) k := by
            unfold l_va
            rw [hdn, show ((k : Int)).toNat = k by omega]
          refine sg_72_68 ⟨fun x => ⟨fun z => by omega, fun z => ⟨fun z => by omega, fun _ => ⟨by omega, by omega, ?_⟩⟩⟩, fun x => ⟨⟨by omega, by omega⟩, fun z => by omega, fun z => ⟨fun z => by omega, fun _ => ⟨by omega, by omega, ?_⟩⟩⟩⟩
          · refine hQ M1 hf (by omega) (by omega) (fun _ => ⟨by omega, ?_⟩)
            have : ¬ b s = 45 := fun y => by rw [if_pos y] at hx1; omega
            rw [hva, if_neg this]; exact h6
          · refine hQ _ (jm_fe_tr hf (jm_fe_st (by decide))) ?_ ?_ (fun _ => ⟨?_, ?_⟩)
            · rw [jm_s65, if_neg (by omega)]; omega
            · rw [jm_s65, if_neg (by omega)]; omega
            · rw [jm_s65, if_neg (by omega)]; omega
            · have : b s = 45 := by
                by_cases y : b s = 45
                · exact y
                · rw [if_neg y] at hx1; exact absurd hx1 x
              rw [hva, if_pos this, jm_s65, if_pos rfl, h6]
      have hd : l_d (b (l_q b s + k)) = true ↔ 48 ≤ b (l_q b s + k) ∧ b (l_q b s + k) ≤ 57 := by unfold l_d; rw [decide_eq_true_iff]
      refine sg_72_24 ⟨fun z => ?_, fun z => fin ?_⟩
      · rw [h3, m2] at z
        rw [m66, h3]
        refine ⟨by omega, by omega, fun y => fin ?_, fun y => ⟨by omega, by omega, fun u => fin ?_, fun u => ⟨fun t => by omega, fun t => ?_⟩⟩⟩
        · rw [hsk]
          exact l_sk_n (by rw [← Bool.not_eq_true, hd]; omega)
        · rw [hsk]
          exact l_sk_n (by rw [← Bool.not_eq_true, hd]; omega)
        · have hyes : l_d (b (l_q b s + k)) = true := hd.2 (by omega)
          rw [h6]
          have e1 : l_dv b (l_q b s) (k + 1) = 10 * l_dv b (l_q b s) k + (b (l_q b s + k) - 48) := rfl
          have e2 : jm_st M1 65 6 (10 * l_dv b (l_q b s) k + (b (l_q b s + k) - 48)) 65 3 = l_q b s + k := by rw [jm_s65, if_neg (by omega)]; exact h3
          rw [e2]
          refine ⟨⟨by omega, by omega⟩, by omega, by omega, ⟨by omega, by omega⟩, ⟨by omega, by omega⟩, ⟨by omega, by omega⟩, ⟨by omega, by omega⟩, ?_⟩
          have := ih (k + 1) (by omega) x1 (jm_st (jm_st M1 65 6 (10 * l_dv b (l_q b s) k + (b (l_q b s + k) - 48))) 65 3 (l_q b s + k + 1)) (jm_fe_tr hf (jm_fe_tr (jm_fe_st (by decide)) (jm_fe_st (by decide)))) (by rw [jm_s65, if_pos rfl]; omega) (by rw [jm_s65, if_neg (by omega), jm_s65, if_pos rfl, e1]) (by
            rw [hsk, l_sk_y z hyes]
            rw [show l_q b s + ((k + 1 : Nat) : Int) = l_q b s + k + 1 by omega]) (by omega) (by
            intro v v0 v1
            by_cases w : v = l_q b s + k
            · rw [w]; exact hyes
            · exact hdg v v0 (by omega)) hx1
          rw [show ((k + 1 : Nat) : Int) = (k : Int) + 1 by omega] at this
          exact this
      · rw [h3, m2] at z
        rw [hsk]
        exact l_sk_z (by omega)
  have m66 : M 66 s = b s := by rw [hb]
  refine sc_72 ?_
  rw [hs, m66]
  refine ⟨s0, by omega, fun q => ⟨fun z => by omega, fun _ => ⟨⟨by omega, by omega⟩, ?_⟩⟩, fun q => ⟨fun _ => ?_, fun z => absurd rfl z⟩⟩
  · have e : l_q b s = s + 1 := if_pos q
    refine L 4 0 (by omega) 1 _ (jm_fe_tr (jm_fe_st (by decide)) (jm_fe_st (by decide))) ?_ ?_ ?_ (by omega) (fun v v0 v1 => by omega) (if_pos q).symm
    · rw [jm_s65, if_neg (by omega), jm_s65, if_pos rfl, e]; omega
    · rw [jm_s65, if_pos rfl]; rfl
    · rw [show l_q b s + ((0 : Nat) : Int) = l_q b s by omega]
  · have e : l_q b s = s := if_neg q
    refine L 4 0 (by omega) 0 _ (jm_fe_st (by decide)) ?_ ?_ ?_ (by omega) (fun v v0 v1 => by omega) (if_neg q).symm
    · rw [jm_s65, if_neg (by omega), e, hs]; omega
    · rw [jm_s65, if_pos rfl]; rfl
    · rw [show l_q b s + ((0 : Nat) : Int) = l_q b s by omega]
