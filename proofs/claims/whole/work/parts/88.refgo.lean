/-! TEXTS: the reference's next token -/
theorem l_27_u : ∀ (l : List Int), (∀ c ∈ l, 97 ≤ c ∧ c ≤ 122) → (l.length ≤ 5 → l_27 l ≤ 14348906) ∧ (l.length ≤ 4 → l_27 l ≤ 531440) ∧ (l.length ≤ 3 → l_27 l ≤ 19682) ∧ (l.length ≤ 2 → l_27 l ≤ 728) ∧ (l.length ≤ 1 → l_27 l ≤ 26) ∧ (l.length = 0 → l_27 l = 0)
  | [], _ => by
    have : l_27 [] = 0 := rfl
    rw [this]
    exact ⟨fun _ => by omega, fun _ => by omega, fun _ => by omega, fun _ => by omega, fun _ => by omega, fun _ => rfl⟩
  | c :: l, h => by
    have ih := l_27_u l (fun d hd => h d (List.mem_cons_of_mem _ hd))
    have hc := h c List.mem_cons_self
    have e : l_27 (c :: l) = 27 * l_27 l + c - 96 := rfl
    rw [e, List.length_cons]
    omega
/-- the letters' number when k letters were read -/
def l_lk (b : Int → Int) (s : Int) (k : Nat) : Int := if k ≤ 6 then l_27 (l_rw b s k) else -1
def l_gx (b : Int → Int) (n s : Int) (M' : jm_Mem) : Prop := M' 67 12 = l_kd b n s ∧ M' 67 10 = s ∧ 0 ≤ M' 67 11 ∧ M' 67 11 ≤ n ∧ (l_kd b n s ≠ 4 → M' 67 11 = l_en b n s) ∧ (l_kd b n s = 2 → M' 67 13 = l_va b n s) ∧ (l_kd b n s = 1 → M' 67 14 = l_lk b s (l_wl b n s))
theorem p_139_40 {M : jm_Mem} {b : Int → Int} {n s x1 : Int} {Q : jm_Q} (hb : l_rb b n M) (hby : l_by b) (hn : M 67 9 = n) (n1 : n ≤ 600) (hs : M 67 10 = s) (s0 : 0 ≤ s) (hQ : ∀ M', jm_fx [] [11, 12, 14] M M' → M' 67 11 = l_sk b l_l n s → M' 67 12 = 1 → M' 67 14 = l_lk b s (l_wl b n s) → Q none M') : ∀ v, v ≤ n → s ≤ v → ∀ M1, jm_fx [] [11, 12, 14] M M1 → M1 67 11 = v → M1 67 14 = l_lk b s (v - s).toNat → l_sk b l_l n s = l_sk b l_l n v → (∀ u, s ≤ u → u < v → 97 ≤ b u ∧ b u ≤ 122) → jm_run 139 (40, [some (jm_R 67), some (jm_I x1)], [], M1) Q := by
  refine jm_dn ?_
  intro v hv ih sv M1 hf h11 h14 hsk hlt
  have hb1 : l_rb b n M1 := fun u u0 u1 => by rw [hf.1 72 (by decide) (by decide)]; exact hb u u0 u1
  have m9 : M1 67 9 = n := by rw [hf.2 9 (by decide)]; exact hn
  have m10 : M1 67 10 = s := by rw [hf.2 10 (by decide)]; exact hs
  have hmem : ∀ c ∈ l_rw b s (v - s).toNat, 97 ≤ c ∧ c ≤ 122 := by
    intro c hc
    obtain ⟨u, u0, u1, hu⟩ := l_rw_mem _ c hc
    rw [← hu]
    exact hlt u u0 (by omega)
  have hu := l_27_u _ hmem
  have hl := l_27_b _ hmem
  rw [l_rw_len] at hu
  refine sg_139_40 ?_
  rw [h11, e_135 hb1 m9 n1 (by omega)]
  refine ⟨_, rfl, ?_⟩
  rw [e_136]
  refine ⟨_, rfl, fun z => ?_, fun z => ?_⟩
  · rw [jm_B0, l_at_l hby] at z
    have he : l_sk b l_l n s = v := by
      rw [hsk]
      by_cases q : v < n
      · refine l_sk_n ?_
        rw [← Bool.not_eq_true]
        exact fun y => z ⟨q, y⟩
      · exact l_sk_z (by omega)
    have hw : l_wl b n s = (v - s).toNat := by unfold l_wl; rw [he]
    refine hQ _ (jm_fx_tr hf (jm_fx_sx (by decide))) ?_ ?_ ?_
    · rw [jm_s67, if_neg (by omega), h11, he]
    · rw [jm_s67, if_pos rfl]
    · rw [jm_s67, if_neg (by omega), h14, hw]
  · have z := jm_Bn.1 z
    rw [l_at_l hby] at z
    obtain ⟨z1, z2⟩ := z
    have hd := of_decide_eq_true z2
    have ih := ih z1 (by omega)
    have hlt' : ∀ u, s ≤ u → u < v + 1 → 97 ≤ b u ∧ b u ≤ 122 := by
      intro u u0 u1
      by_cases w : u = v
      · rw [w]; exact hd
      · exact hlt u u0 (by omega)
    have hk1 : (v + 1 - s).toNat = (v - s).toNat + 1 := by omega
    rw [h11, m10]
    refine ⟨⟨by omega, by omega⟩, fun y => ?_, fun y => ?_⟩
    · have hlk : M1 67 14 = l_27 (l_rw b s (v - s).toNat) := by
        rw [h14]; exact if_pos (by omega)
      rw [e_135 hb1 m9 n1 (by omega)]
      have hat : l_at b n v = b v := (l_at_e hby (by omega) (by omega)).2 ⟨z1, rfl⟩
      refine ⟨⟨by omega, by omega⟩, _, rfl, ?_⟩
      rw [hat]
      have c11 : jm_st M1 67 14 (27 * M1 67 14 + b v - 96) 67 11 = v := by rw [jm_s67, if_neg (by omega)]; exact h11
      rw [c11]
      refine ⟨⟨by omega, by omega⟩, ⟨by omega, by omega⟩, ⟨by omega, by omega⟩, ih _ (jm_fx_tr hf (jm_fx_tr (jm_fx_sx (by decide)) (jm_fx_sx (by decide)))) ?_ ?_ ?_ hlt'⟩
      · rw [jm_s67, if_pos rfl]
      · rw [jm_s67, if_neg (by omega), jm_s67, if_pos rfl, hlk, hk1]
        unfold l_lk
        rw [if_pos (by omega)]
        show _ = 27 * l_27 (l_rw b s (v - s).toNat) + b (s + ((v - s).toNat : Int)) - 96
        rw [show s + ((v - s).toNat : Int) = v by omega]
      · rw [hsk, l_sk_y z1 z2]
    · have c11 : jm_st M1 67 14 (-1) 67 11 = v := by rw [jm_s67, if_neg (by omega)]; exact h11
      rw [c11]
      refine ⟨⟨by omega, by omega⟩, ih _ (jm_fx_tr hf (jm_fx_tr (jm_fx_sx (by decide)) (jm_fx_sx (by decide)))) ?_ ?_ ?_ hlt'⟩
      · rw [jm_s67, if_pos rfl]
      · rw [jm_s67, if_neg (by omega), jm_s67, if_pos rfl, hk1]
        exact (if_neg (by omega)).symm
      · rw [hsk, l_sk_y z1 z2]
/-- the reference at the token's first byte -/
theorem p_139 {M : jm_Mem} {b : Int → Int} {n p : Int} {Q : jm_Q} (hb : l_rb b n M) (hby : l_by b) (hn : M 67 9 = n) (n1 : n ≤ 600) (hp : M 67 11 = p) (p0 : 0 ≤ p) (p1 : p ≤ n) (hQ : ∀ M', jm_fx [] [10, 11, 12, 13, 14] M M' → l_gx b n (l_st b n p) M' → Q none M') : jm_cl 139 [jm_R 67] M Q := by
  have S : ∀ v, v ≤ n → p ≤ v → ∀ M1, jm_fx [] [10, 11, 12, 13, 14] M M1 → M1 67 11 = v → l_st b n p = l_st b n v → jm_cl 139 [jm_R 67] M1 Q ∧ jm_run 139 (0, [some (jm_R 67), none], [], M1) Q := by
    refine jm_dn ?_
    intro v hv ih pv M1 hf h11 hsk
    have hb1 : l_rb b n M1 := fun u u0 u1 => by rw [hf.1 72 (by decide) (by decide)]; exact hb u u0 u1
    have m9 : M1 67 9 = n := by rw [hf.2 9 (by decide)]; exact hn
    have go : v < n → l_w (b v) = true → jm_run 139 (12, [some (jm_R 67), none], [], M1) Q := by
      intro q hw
      refine sg_139_12 ?_
      rw [h11]
      refine ⟨⟨by omega, by omega⟩, (ih q (by omega) _ (jm_fx_tr hf (jm_fx_sx (by decide))) (by rw [jm_s67, if_pos rfl]) ?_).2⟩
      rw [hsk]
      exact l_sk_y q hw
    have hcl : jm_cl 135 [jm_R 67, jm_I (M1 67 11)] M1 (fun r M1 => ∃ r1 : Int, r = some (jm_I r1) ∧ (r1 = 32 → jm_run 139 (12, [some (jm_R 67), none], [], M1) Q) ∧ (¬ r1 = 32 → jm_cl 135 [jm_R 67, jm_I (M1 67 11)] M1 (fun r M2 => ∃ r2 : Int, r = some (jm_I r2) ∧ (r2 = 10 → jm_run 139 (12, [some (jm_R 67), none], [], M2) Q) ∧ (¬ r2 = 10 → jm_cl 135 [jm_R 67, jm_I ((jm_st M2 67 10 (M2 67 11)) 67 11)] (jm_st M2 67 10 (M2 67 11)) (fun r M3 => ∃ r3 : Int, r = some (jm_I r3) ∧ (r3 < 0 → Q none (jm_st M3 67 12 0)) ∧ (¬ r3 < 0 → jm_cl 136 [jm_I r3] M3 (fun r M4 => ∃ r4 : Int, r = some (jm_I r4) ∧ (r4 = 0 → jm_cl 137 [jm_I r3] M4 (fun r M5 => ∃ r5 : Int, r = some (jm_I r5) ∧ (r5 = 0 → (r3 = 45 → jm_in ((M5 67 11) + 1) ∧ jm_cl 135 [jm_R 67, jm_I ((M5 67 11) + 1)] M5 (fun r M6 => ∃ r6 : Int, r = some (jm_I r6) ∧ jm_cl 137 [jm_I r6] M6 (fun r M7 => ∃ r7 : Int, r = some (jm_I r7) ∧ (r7 = 0 → jm_run 139 (97, [some (jm_R 67), some (jm_I r3)], [], M7) Q) ∧ (¬ r7 = 0 → jm_run 139 (94, [some (jm_R 67), some (jm_I r3)], [], M7) Q)))) ∧ (¬ r3 = 45 → jm_run 139 (97, [some (jm_R 67), some (jm_I r3)], [], M5) Q)) ∧ (¬ r5 = 0 → jm_run 139 (94, [some (jm_R 67), some (jm_I r3)], [], M5) Q))) ∧ (¬ r4 = 0 → jm_run 139 (40, [some (jm_R 67), some (jm_I r3)], [], (jm_st M4 67 14 0)) Q)))))))) := by
      rw [h11, e_135 hb1 m9 n1 (by omega)]
      refine ⟨_, rfl, fun y => ?_, fun y => ?_⟩
      · obtain ⟨y1, y2⟩ := (l_at_e hby (by omega) (by omega)).1 y
        exact go y1 (by rw [y2]; rfl)
      · rw [h11, e_135 hb1 m9 n1 (by omega)]
        refine ⟨_, rfl, fun t => ?_, fun t => ?_⟩
        · obtain ⟨y1, y2⟩ := (l_at_e hby (by omega) (by omega)).1 t
          exact go y1 (by rw [y2]; rfl)
        · have y' : ¬ (v < n ∧ b v = 32) := fun u => y ((l_at_e hby (by omega) (by omega)).2 u)
          have t' : ¬ (v < n ∧ b v = 10) := fun u => t ((l_at_e hby (by omega) (by omega)).2 u)
          have he : l_st b n p = v := by
            rw [hsk]
            by_cases q : v < n
            · exact l_sk_n (decide_eq_false (by omega))
            · exact l_sk_z (by omega)
          rw [he] at hQ
          rw [h11]
          have a11 : jm_st M1 67 10 v 67 11 = v := by rw [jm_s67, if_neg (by omega)]; exact h11
          have a9 : jm_st M1 67 10 v 67 9 = n := by rw [jm_s67, if_neg (by omega)]; exact m9
          have a10 : jm_st M1 67 10 v 67 10 = v := by rw [jm_s67, if_pos rfl]
          have ab : l_rb b n (jm_st M1 67 10 v) := hb1
          have fa : jm_fx [] [10, 11, 12, 13, 14] M (jm_st M1 67 10 v) := jm_fx_tr hf (jm_fx_sx (by decide))
          rw [a11, e_135 ab a9 n1 (by omega)]
          have hby' := hby v
          have hc := l_at_c (n := n) (x := v) hby
          -- a sign or a wrong byte
          have sign : v < n → l_l (b v) = false → (l_dn b n v = 0 ∨ b v = 59) → l_at b n v = b v % 256 → jm_run 139 (97, [some (jm_R 67), some (jm_I (l_at b n v))], [], jm_st M1 67 10 v) Q := by
            intro q hl hd hat
            have fin : ∀ k, (k = l_kd b n v) → (k = 3 → b v = 59) → (k = 3 ∨ k = 4) → jm_run 139 (104, [some (jm_R 67), some (jm_I (l_at b n v))], [jm_I k, jm_R 67], jm_st M1 67 10 v) Q := by
              intro k hk h3 h4
              refine sg_139_104 ?_
              have c11 : jm_st (jm_st M1 67 10 v) 67 12 k 67 11 = v := by rw [jm_s67, if_neg (by omega)]; exact a11
              rw [c11]
              refine ⟨⟨by omega, by omega⟩, hQ _ (jm_fx_tr fa (jm_fx_tr (jm_fx_sx (by decide)) (jm_fx_sx (by decide)))) ⟨?_, ?_, ?_, ?_, fun u => ?_, fun u => by omega, fun u => by omega⟩⟩
              · rw [jm_s67, if_neg (by omega), jm_s67, if_pos rfl, hk]
              · rw [jm_s67, if_neg (by omega), jm_s67, if_neg (by omega), a10]
              · rw [jm_s67, if_pos rfl]; omega
              · rw [jm_s67, if_pos rfl]; omega
              · rw [jm_s67, if_pos rfl, (l_kd_3 q (h3 (by omega))).2]
            refine sg_139_97 ⟨fun u => ?_, fun u => ?_⟩
            · have h59 : b v = 59 := by omega
              exact fin 3 (l_kd_3 q h59).1.symm (fun _ => h59) (Or.inl rfl)
            · have h59 : ¬ b v = 59 := by omega
              refine fin 4 ?_ (fun u => by omega) (Or.inr rfl)
              rw [(l_kd_2 (n := n) q hl h59).1, if_neg (by omega)]
          -- a number
          have num : v < n → l_l (b v) = false → b v ≠ 59 → 1 ≤ l_dn b n v → ∀ x, jm_run 139 (94, [some (jm_R 67), some (jm_I x)], [], jm_st M1 67 10 v) Q := by
            intro q hl h59 hd x
            obtain ⟨k1, k2⟩ := l_kd_2 (n := n) q hl h59
            refine sg_139_94 (p_138 ab hby a9 n1 a11 (by omega) q ?_)
            intro M2 hf2 g11 g12 g13
            have hE := l_sk_b (b := b) (P := l_d) (n := n) (l_q b v) (l_q_b q).2
            have hqb := l_q_b (b := b) q
            refine ⟨rfl, hQ M2 (jm_fx_tr fa (jm_fx_mo hf2 (fun _ h => absurd h List.not_mem_nil) (by decide))) ⟨?_, ?_, by omega, by omega, fun u => ?_, fun u => ?_, fun u => ?_⟩⟩
            · rw [g12, k1]
              by_cases w : 3 < l_dn b n v
              · rw [if_pos w, if_neg (by omega)]
              · rw [if_neg w, if_pos (by omega)]
            · rw [hf2.2 10 (by decide), a10]
            · rw [g11, k2]
            · refine g13 ?_
              by_cases w : l_dn b n v ≤ 3
              · exact w
              · rw [if_neg (by omega)] at k1; omega
            · by_cases w : 1 ≤ l_dn b n v ∧ l_dn b n v ≤ 3
              · rw [if_pos w] at k1; omega
              · rw [if_neg w] at k1; omega
          refine ⟨_, rfl, fun u => ?_, fun u => ?_⟩
          · obtain ⟨k1, k2⟩ := l_kd_0 (b := b) (n := n) (s := v) (by omega)
            refine hQ _ (jm_fx_tr fa (jm_fx_sx (by decide))) ⟨?_, ?_, ?_, ?_, fun _ => ?_, fun w => by omega, fun w => by omega⟩
            · rw [jm_s67, if_pos rfl, k1]
            · rw [jm_s67, if_neg (by omega), a10]
            · rw [jm_s67, if_neg (by omega), a11]; omega
            · rw [jm_s67, if_neg (by omega), a11]; omega
            · rw [jm_s67, if_neg (by omega), a11, k2]
          · have q : v < n := by omega
            have hat : l_at b n v = b v % 256 := by omega
            rw [e_136]
            refine ⟨_, rfl, fun w => ?_, fun w => ?_⟩
            · rw [jm_B0, l_at_l hby] at w
              have hl : l_l (b v) = false := by
                rw [← Bool.not_eq_true]
                exact fun h => w ⟨q, h⟩
              rw [e_137]
              refine ⟨_, rfl, fun x => ?_, fun x => ?_⟩
              · rw [jm_B0, l_at_d hby] at x
                have hd : l_d (b v) = false := by
                  rw [← Bool.not_eq_true]
                  exact fun h => x ⟨q, h⟩
                refine ⟨fun m => ?_, fun m => ?_⟩
                · rw [a11]
                  have m : b v = 45 := by omega
                  have hq : l_q b v = v + 1 := if_pos m
                  refine ⟨⟨by omega, by omega⟩, ?_⟩
                  rw [e_135 ab a9 n1 (by omega)]
                  refine ⟨_, rfl, ?_⟩
                  rw [e_137]
                  refine ⟨_, rfl, fun k => ?_, fun k => ?_⟩
                  · rw [jm_B0, l_at_d hby] at k
                    refine sign q hl (Or.inl ?_) hat
                    unfold l_dn
                    rw [hq]
                    by_cases o : v + 1 < n
                    · rw [l_sk_n (by rw [← Bool.not_eq_true]; exact fun h => k ⟨o, h⟩)]; omega
                    · rw [l_sk_z (by omega)]; omega
                  · have k := jm_Bn.1 k
                    rw [l_at_d hby] at k
                    refine num q hl (by omega) ?_ _
                    unfold l_dn
                    rw [hq, l_sk_y k.1 k.2]
                    have := l_sk_b (b := b) (P := l_d) (n := n) (v + 1 + 1) (by omega)
                    omega
                · refine sign q hl ?_ hat
                  by_cases h59 : b v = 59
                  · exact Or.inr h59
                  · left
                    have hq : l_q b v = v := if_neg (by omega)
                    unfold l_dn
                    rw [hq, l_sk_n hd]; omega
              · have x := jm_Bn.1 x
                rw [l_at_d hby] at x
                have hdd := of_decide_eq_true x.2
                refine num q hl (by omega) ?_ _
                have hq : l_q b v = v := if_neg (by omega)
                unfold l_dn
                rw [hq, l_sk_y q x.2]
                have := l_sk_b (b := b) (P := l_d) (n := n) (v + 1) (by omega)
                omega
            · have w := jm_Bn.1 w
              rw [l_at_l hby] at w
              obtain ⟨k1, k2⟩ := l_kd_1 (n := n) q w.2
              have hE := l_sk_b (b := b) (P := l_l) (n := n) v (by omega)
              refine p_139_40 (M := jm_st (jm_st M1 67 10 v) 67 14 0) (b := b) (n := n) (s := v) hb1 hby (by rw [jm_s67, if_neg (by omega)]; exact a9) n1 (by rw [jm_s67, if_neg (by omega)]; exact a10) (by omega) ?_ v hv (by omega) _ (jm_fx_rfl _ _ _) (by rw [jm_s67, if_neg (by omega)]; exact a11) ?_ rfl (fun u u0 u1 => by omega)
              · intro M2 hf2 g11 g12 g14
                refine hQ M2 (jm_fx_tr fa (jm_fx_tr (jm_fx_sx (by decide)) (jm_fx_mo hf2 (fun _ h => absurd h List.not_mem_nil) (by decide)))) ⟨by rw [g12, k1], ?_, by omega, by omega, fun _ => by rw [g11, k2], fun w => by omega, fun _ => g14⟩
                rw [hf2.2 10 (by decide), jm_s67, if_neg (by omega)]; exact a10
              · rw [jm_s67, if_pos rfl, show (v - v).toNat = 0 by omega]; rfl
    exact ⟨sc_139 hcl, sg_139_0 hcl⟩
  exact (S p p1 (by omega) M (jm_fx_rfl _ _ _) hp rfl).1
theorem r_140 {M : jm_Mem} {b : Int → Int} {n s x : Int} {W : List Int} (s1 : s ≤ n) (hx : l_gx b n s M) (hW : ∀ c ∈ W, 97 ≤ c ∧ c ≤ 122) (hl : W.length ≤ 6) (hx1 : x = l_27 W) (Q : jm_Q) : jm_cl 140 [jm_R 67, jm_L x] M Q ↔ Q (some (jm_I (jm_B (l_is b n s W)))) M := by
  refine jm_cl_e (fun Q h => sc_140 ?_) Q
  obtain ⟨x12, -, -, -, -, -, x14⟩ := hx
  rw [x12]
  have hcmp : ∀ a b : Int, jm_cmp a b = 0 ↔ a = b := by
    intro a b
    unfold jm_cmp
    by_cases q : a < b
    · rw [if_pos q]; omega
    · rw [if_neg q]
      by_cases q' : a = b
      · rw [if_pos q']; omega
      · rw [if_neg q']; omega
  rw [hcmp]
  have hWb := l_27_b W hW
  refine ⟨fun q => ?_, fun q => ⟨by omega, by omega, by rwa [jm_Bf (fun z => q z.1)] at h⟩⟩
  have x14 := x14 q
  have hlen := l_rw_len (b := b) (s := s) (l_wl b n s)
  refine ⟨fun y => ⟨by omega, by omega, ?_⟩, fun y => ⟨by omega, by omega, ?_⟩⟩
  · rw [jm_Bt] at h
    · exact h
    · refine ⟨q, ?_⟩
      rw [x14] at y
      unfold l_lk at y
      by_cases w : l_wl b n s ≤ 6
      · rw [if_pos w, hx1] at y
        exact l_27_i _ _ (l_rw_l s1) hW y
      · rw [if_neg w] at y; omega
  · rwa [jm_Bf] at h
    intro z
    apply y
    rw [x14, hx1]
    unfold l_lk
    rw [z.2] at hlen
    rw [if_pos (by omega), z.2]
