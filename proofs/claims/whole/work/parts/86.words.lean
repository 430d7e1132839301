/-! TEXTS: words of the class (printed by wip/whole/tpl/words.py) -/
theorem l_wl_e {b : Int → Int} {n s : Int} (s1 : s ≤ n) (h : l_kd b n s = 1) : l_en b n s = s + (l_wl b n s : Int) ∧ s + (l_wl b n s : Int) ≤ n := by
  have hl : s < n ∧ l_l (b s) = true := by
    by_cases h1 : n ≤ s
    · have := (l_kd_0 (b := b) h1).1; omega
    · refine ⟨by omega, ?_⟩
      cases hk : l_l (b s) with
      | true => rfl
      | false =>
        by_cases h3 : b s = 59
        · have := (l_kd_3 (n := n) (by omega) h3).1; omega
        · have h4 := (l_kd_2 (n := n) (by omega) hk h3).1
          by_cases h5 : 1 ≤ l_dn b n s ∧ l_dn b n s ≤ 3
          · rw [if_pos h5] at h4; omega
          · rw [if_neg h5] at h4; omega
  have hb := l_sk_b (b := b) (P := l_l) (n := n) s s1
  rw [(l_kd_1 hl.1 hl.2).2]
  unfold l_wl
  omega
theorem e_74_s0 {M : jm_Mem} {b : Int → Int} {n s : Int} (hb : M 66 = b) (n1 : n ≤ 600) (s0 : 0 ≤ s) (s1 : s ≤ n) (hx : l_nx b n s M) (Q : jm_Q) : jm_cl 74 [jm_R 65, jm_R 200] M Q ↔ Q (some (jm_I (jm_B (l_is b n s [100, 105, 114, 103])))) M := by
  refine jm_cl_e (fun Q h => sc_74_s0 ?_) Q
  obtain ⟨x4, x5, x30, x31, x3, x6⟩ := hx
  rw [x4, x5]
  refine ⟨fun q => ?_, fun q => ⟨by omega, by omega, by rwa [jm_Bf (fun z => q z.1)] at h⟩⟩
  obtain ⟨w1, w2⟩ := l_wl_e s1 q
  have x3 := x3 (by omega)
  refine ⟨⟨by omega, by omega⟩, fun y => ?_, fun y => ⟨by omega, by omega, ?_⟩⟩
  · have hw : l_wl b n s = 4 := by omega
    have hrw : l_rw b s 4 = [b (s + 3), b (s + 2), b (s + 1), b s] := by simp [l_rw]
    have no : ¬ (l_is b n s [100, 105, 114, 103]) → Q (some (jm_I 0)) M := fun z => by rwa [jm_Bf z] at h
    have hq : l_is b n s [100, 105, 114, 103] ↔ b (s + 3) = 100 ∧ b (s + 2) = 105 ∧ b (s + 1) = 114 ∧ b s = 103 := by
      constructor
      · intro z
        have z := z.2
        rw [hw, hrw] at z
        simp only [List.cons.injEq, and_true] at z
        exact z
      · intro z
        refine ⟨q, ?_⟩
        rw [hw, hrw]
        simp only [List.cons.injEq, and_true]
        exact z
    refine sg_74_16_s0 ⟨fun _ => ?_, fun z => by omega⟩
    rw [x5, hb, show jm_chr [103, 114, 105, 100] (Int.toNat (0)) = 103 from rfl, show s + (0) = s by omega]
    refine ⟨⟨by omega, by omega⟩, by omega, by omega, by omega, by omega, fun c0 => ⟨⟨by omega, by omega⟩, ?_⟩, fun c => ⟨by omega, by omega, no (fun z => ?_)⟩⟩
    rotate_left
    · rw [hq] at z
      omega
    refine sg_74_16_s0 ⟨fun _ => ?_, fun z => by omega⟩
    rw [x5, hb, show jm_chr [103, 114, 105, 100] (Int.toNat (0 + 1)) = 114 from rfl, show s + (0 + 1) = s + 1 by omega]
    refine ⟨⟨by omega, by omega⟩, by omega, by omega, by omega, by omega, fun c1 => ⟨⟨by omega, by omega⟩, ?_⟩, fun c => ⟨by omega, by omega, no (fun z => ?_)⟩⟩
    rotate_left
    · rw [hq] at z
      omega
    refine sg_74_16_s0 ⟨fun _ => ?_, fun z => by omega⟩
    rw [x5, hb, show jm_chr [103, 114, 105, 100] (Int.toNat (0 + 1 + 1)) = 105 from rfl, show s + (0 + 1 + 1) = s + 2 by omega]
    refine ⟨⟨by omega, by omega⟩, by omega, by omega, by omega, by omega, fun c2 => ⟨⟨by omega, by omega⟩, ?_⟩, fun c => ⟨by omega, by omega, no (fun z => ?_)⟩⟩
    rotate_left
    · rw [hq] at z
      omega
    refine sg_74_16_s0 ⟨fun _ => ?_, fun z => by omega⟩
    rw [x5, hb, show jm_chr [103, 114, 105, 100] (Int.toNat (0 + 1 + 1 + 1)) = 100 from rfl, show s + (0 + 1 + 1 + 1) = s + 3 by omega]
    refine ⟨⟨by omega, by omega⟩, by omega, by omega, by omega, by omega, fun c3 => ⟨⟨by omega, by omega⟩, ?_⟩, fun c => ⟨by omega, by omega, no (fun z => ?_)⟩⟩
    rotate_left
    · rw [hq] at z
      omega
    refine sg_74_16_s0 ⟨fun z => by omega, fun _ => ⟨by omega, by omega, ?_⟩⟩
    rwa [jm_Bt (hq.2 ⟨c3, c2, c1, c0⟩)] at h
  · rwa [jm_Bf] at h
    intro z
    have z := congrArg List.length z.2
    rw [l_rw_len] at z
    have z : l_wl b n s = 4 := z
    omega
theorem e_74_s1 {M : jm_Mem} {b : Int → Int} {n s : Int} (hb : M 66 = b) (n1 : n ≤ 600) (s0 : 0 ≤ s) (s1 : s ≤ n) (hx : l_nx b n s M) (Q : jm_Q) : jm_cl 74 [jm_R 65, jm_R 201] M Q ↔ Q (some (jm_I (jm_B (l_is b n s [108, 108, 97])))) M := by
  refine jm_cl_e (fun Q h => sc_74_s1 ?_) Q
  obtain ⟨x4, x5, x30, x31, x3, x6⟩ := hx
  rw [x4, x5]
  refine ⟨fun q => ?_, fun q => ⟨by omega, by omega, by rwa [jm_Bf (fun z => q z.1)] at h⟩⟩
  obtain ⟨w1, w2⟩ := l_wl_e s1 q
  have x3 := x3 (by omega)
  refine ⟨⟨by omega, by omega⟩, fun y => ?_, fun y => ⟨by omega, by omega, ?_⟩⟩
  · have hw : l_wl b n s = 3 := by omega
    have hrw : l_rw b s 3 = [b (s + 2), b (s + 1), b s] := by simp [l_rw]
    have no : ¬ (l_is b n s [108, 108, 97]) → Q (some (jm_I 0)) M := fun z => by rwa [jm_Bf z] at h
    have hq : l_is b n s [108, 108, 97] ↔ b (s + 2) = 108 ∧ b (s + 1) = 108 ∧ b s = 97 := by
      constructor
      · intro z
        have z := z.2
        rw [hw, hrw] at z
        simp only [List.cons.injEq, and_true] at z
        exact z
      · intro z
        refine ⟨q, ?_⟩
        rw [hw, hrw]
        simp only [List.cons.injEq, and_true]
        exact z
    refine sg_74_16_s1 ⟨fun _ => ?_, fun z => by omega⟩
    rw [x5, hb, show jm_chr [97, 108, 108] (Int.toNat (0)) = 97 from rfl, show s + (0) = s by omega]
    refine ⟨⟨by omega, by omega⟩, by omega, by omega, by omega, by omega, fun c0 => ⟨⟨by omega, by omega⟩, ?_⟩, fun c => ⟨by omega, by omega, no (fun z => ?_)⟩⟩
    rotate_left
    · rw [hq] at z
      omega
    refine sg_74_16_s1 ⟨fun _ => ?_, fun z => by omega⟩
    rw [x5, hb, show jm_chr [97, 108, 108] (Int.toNat (0 + 1)) = 108 from rfl, show s + (0 + 1) = s + 1 by omega]
    refine ⟨⟨by omega, by omega⟩, by omega, by omega, by omega, by omega, fun c1 => ⟨⟨by omega, by omega⟩, ?_⟩, fun c => ⟨by omega, by omega, no (fun z => ?_)⟩⟩
    rotate_left
    · rw [hq] at z
      omega
    refine sg_74_16_s1 ⟨fun _ => ?_, fun z => by omega⟩
    rw [x5, hb, show jm_chr [97, 108, 108] (Int.toNat (0 + 1 + 1)) = 108 from rfl, show s + (0 + 1 + 1) = s + 2 by omega]
    refine ⟨⟨by omega, by omega⟩, by omega, by omega, by omega, by omega, fun c2 => ⟨⟨by omega, by omega⟩, ?_⟩, fun c => ⟨by omega, by omega, no (fun z => ?_)⟩⟩
    rotate_left
    · rw [hq] at z
      omega
    refine sg_74_16_s1 ⟨fun z => by omega, fun _ => ⟨by omega, by omega, ?_⟩⟩
    rwa [jm_Bt (hq.2 ⟨c2, c1, c0⟩)] at h
  · rwa [jm_Bf] at h
    intro z
    have z := congrArg List.length z.2
    rw [l_rw_len] at z
    have z : l_wl b n s = 3 := z
    omega
theorem e_74_s2 {M : jm_Mem} {b : Int → Int} {n s : Int} (hb : M 66 = b) (n1 : n ≤ 600) (s0 : 0 ≤ s) (s1 : s ≤ n) (hx : l_nx b n s M) (Q : jm_Q) : jm_cl 74 [jm_R 65, jm_R 202] M Q ↔ Q (some (jm_I (jm_B (l_is b n s [116, 104, 103, 105, 114])))) M := by
  refine jm_cl_e (fun Q h => sc_74_s2 ?_) Q
  obtain ⟨x4, x5, x30, x31, x3, x6⟩ := hx
  rw [x4, x5]
  refine ⟨fun q => ?_, fun q => ⟨by omega, by omega, by rwa [jm_Bf (fun z => q z.1)] at h⟩⟩
  obtain ⟨w1, w2⟩ := l_wl_e s1 q
  have x3 := x3 (by omega)
  refine ⟨⟨by omega, by omega⟩, fun y => ?_, fun y => ⟨by omega, by omega, ?_⟩⟩
  · have hw : l_wl b n s = 5 := by omega
    have hrw : l_rw b s 5 = [b (s + 4), b (s + 3), b (s + 2), b (s + 1), b s] := by simp [l_rw]
    have no : ¬ (l_is b n s [116, 104, 103, 105, 114]) → Q (some (jm_I 0)) M := fun z => by rwa [jm_Bf z] at h
    have hq : l_is b n s [116, 104, 103, 105, 114] ↔ b (s + 4) = 116 ∧ b (s + 3) = 104 ∧ b (s + 2) = 103 ∧ b (s + 1) = 105 ∧ b s = 114 := by
      constructor
      · intro z
        have z := z.2
        rw [hw, hrw] at z
        simp only [List.cons.injEq, and_true] at z
        exact z
      · intro z
        refine ⟨q, ?_⟩
        rw [hw, hrw]
        simp only [List.cons.injEq, and_true]
        exact z
    refine sg_74_16_s2 ⟨fun _ => ?_, fun z => by omega⟩
    rw [x5, hb, show jm_chr [114, 105, 103, 104, 116] (Int.toNat (0)) = 114 from rfl, show s + (0) = s by omega]
    refine ⟨⟨by omega, by omega⟩, by omega, by omega, by omega, by omega, fun c0 => ⟨⟨by omega, by omega⟩, ?_⟩, fun c => ⟨by omega, by omega, no (fun z => ?_)⟩⟩
    rotate_left
    · rw [hq] at z
      omega
    refine sg_74_16_s2 ⟨fun _ => ?_, fun z => by omega⟩
    rw [x5, hb, show jm_chr [114, 105, 103, 104, 116] (Int.toNat (0 + 1)) = 105 from rfl, show s + (0 + 1) = s + 1 by omega]
    refine ⟨⟨by omega, by omega⟩, by omega, by omega, by omega, by omega, fun c1 => ⟨⟨by omega, by omega⟩, ?_⟩, fun c => ⟨by omega, by omega, no (fun z => ?_)⟩⟩
    rotate_left
    · rw [hq] at z
      omega
    refine sg_74_16_s2 ⟨fun _ => ?_, fun z => by omega⟩
    rw [x5, hb, show jm_chr [114, 105, 103, 104, 116] (Int.toNat (0 + 1 + 1)) = 103 from rfl, show s + (0 + 1 + 1) = s + 2 by omega]
    refine ⟨⟨by omega, by omega⟩, by omega, by omega, by omega, by omega, fun c2 => ⟨⟨by omega, by omega⟩, ?_⟩, fun c => ⟨by omega, by omega, no (fun z => ?_)⟩⟩
    rotate_left
    · rw [hq] at z
      omega
    refine sg_74_16_s2 ⟨fun _ => ?_, fun z => by omega⟩
    rw [x5, hb, show jm_chr [114, 105, 103, 104, 116] (Int.toNat (0 + 1 + 1 + 1)) = 104 from rfl, show s + (0 + 1 + 1 + 1) = s + 3 by omega]
    refine ⟨⟨by omega, by omega⟩, by omega, by omega, by omega, by omega, fun c3 => ⟨⟨by omega, by omega⟩, ?_⟩, fun c => ⟨by omega, by omega, no (fun z => ?_)⟩⟩
    rotate_left
    · rw [hq] at z
      omega
    refine sg_74_16_s2 ⟨fun _ => ?_, fun z => by omega⟩
    rw [x5, hb, show jm_chr [114, 105, 103, 104, 116] (Int.toNat (0 + 1 + 1 + 1 + 1)) = 116 from rfl, show s + (0 + 1 + 1 + 1 + 1) = s + 4 by omega]
    refine ⟨⟨by omega, by omega⟩, by omega, by omega, by omega, by omega, fun c4 => ⟨⟨by omega, by omega⟩, ?_⟩, fun c => ⟨by omega, by omega, no (fun z => ?_)⟩⟩
    rotate_left
    · rw [hq] at z
      omega
    refine sg_74_16_s2 ⟨fun z => by omega, fun _ => ⟨by omega, by omega, ?_⟩⟩
    rwa [jm_Bt (hq.2 ⟨c4, c3, c2, c1, c0⟩)] at h
  · rwa [jm_Bf] at h
    intro z
    have z := congrArg List.length z.2
    rw [l_rw_len] at z
    have z : l_wl b n s = 5 := z
    omega
theorem e_74_s3 {M : jm_Mem} {b : Int → Int} {n s : Int} (hb : M 66 = b) (n1 : n ≤ 600) (s0 : 0 ≤ s) (s1 : s ≤ n) (hx : l_nx b n s M) (Q : jm_Q) : jm_cl 74 [jm_R 65, jm_R 203] M Q ↔ Q (some (jm_I (jm_B (l_is b n s [110, 119, 111, 100])))) M := by
  refine jm_cl_e (fun Q h => sc_74_s3 ?_) Q
  obtain ⟨x4, x5, x30, x31, x3, x6⟩ := hx
  rw [x4, x5]
  refine ⟨fun q => ?_, fun q => ⟨by omega, by omega, by rwa [jm_Bf (fun z => q z.1)] at h⟩⟩
  obtain ⟨w1, w2⟩ := l_wl_e s1 q
  have x3 := x3 (by omega)
  refine ⟨⟨by omega, by omega⟩, fun y => ?_, fun y => ⟨by omega, by omega, ?_⟩⟩
  · have hw : l_wl b n s = 4 := by omega
    have hrw : l_rw b s 4 = [b (s + 3), b (s + 2), b (s + 1), b s] := by simp [l_rw]
    have no : ¬ (l_is b n s [110, 119, 111, 100]) → Q (some (jm_I 0)) M := fun z => by rwa [jm_Bf z] at h
    have hq : l_is b n s [110, 119, 111, 100] ↔ b (s + 3) = 110 ∧ b (s + 2) = 119 ∧ b (s + 1) = 111 ∧ b s = 100 := by
      constructor
      · intro z
        have z := z.2
        rw [hw, hrw] at z
        simp only [List.cons.injEq, and_true] at z
        exact z
      · intro z
        refine ⟨q, ?_⟩
        rw [hw, hrw]
        simp only [List.cons.injEq, and_true]
        exact z
    refine sg_74_16_s3 ⟨fun _ => ?_, fun z => by omega⟩
    rw [x5, hb, show jm_chr [100, 111, 119, 110] (Int.toNat (0)) = 100 from rfl, show s + (0) = s by omega]
    refine ⟨⟨by omega, by omega⟩, by omega, by omega, by omega, by omega, fun c0 => ⟨⟨by omega, by omega⟩, ?_⟩, fun c => ⟨by omega, by omega, no (fun z => ?_)⟩⟩
    rotate_left
    · rw [hq] at z
      omega
    refine sg_74_16_s3 ⟨fun _ => ?_, fun z => by omega⟩
    rw [x5, hb, show jm_chr [100, 111, 119, 110] (Int.toNat (0 + 1)) = 111 from rfl, show s + (0 + 1) = s + 1 by omega]
    refine ⟨⟨by omega, by omega⟩, by omega, by omega, by omega, by omega, fun c1 => ⟨⟨by omega, by omega⟩, ?_⟩, fun c => ⟨by omega, by omega, no (fun z => ?_)⟩⟩
    rotate_left
    · rw [hq] at z
      omega
    refine sg_74_16_s3 ⟨fun _ => ?_, fun z => by omega⟩
    rw [x5, hb, show jm_chr [100, 111, 119, 110] (Int.toNat (0 + 1 + 1)) = 119 from rfl, show s + (0 + 1 + 1) = s + 2 by omega]
    refine ⟨⟨by omega, by omega⟩, by omega, by omega, by omega, by omega, fun c2 => ⟨⟨by omega, by omega⟩, ?_⟩, fun c => ⟨by omega, by omega, no (fun z => ?_)⟩⟩
    rotate_left
    · rw [hq] at z
      omega
    refine sg_74_16_s3 ⟨fun _ => ?_, fun z => by omega⟩
    rw [x5, hb, show jm_chr [100, 111, 119, 110] (Int.toNat (0 + 1 + 1 + 1)) = 110 from rfl, show s + (0 + 1 + 1 + 1) = s + 3 by omega]
    refine ⟨⟨by omega, by omega⟩, by omega, by omega, by omega, by omega, fun c3 => ⟨⟨by omega, by omega⟩, ?_⟩, fun c => ⟨by omega, by omega, no (fun z => ?_)⟩⟩
    rotate_left
    · rw [hq] at z
      omega
    refine sg_74_16_s3 ⟨fun z => by omega, fun _ => ⟨by omega, by omega, ?_⟩⟩
    rwa [jm_Bt (hq.2 ⟨c3, c2, c1, c0⟩)] at h
  · rwa [jm_Bf] at h
    intro z
    have z := congrArg List.length z.2
    rw [l_rw_len] at z
    have z : l_wl b n s = 4 := z
    omega
theorem e_74_s4 {M : jm_Mem} {b : Int → Int} {n s : Int} (hb : M 66 = b) (n1 : n ≤ 600) (s0 : 0 ≤ s) (s1 : s ≤ n) (hx : l_nx b n s M) (Q : jm_Q) : jm_cl 74 [jm_R 65, jm_R 204] M Q ↔ Q (some (jm_I (jm_B (l_is b n s [104, 115, 97, 108, 115])))) M := by
  refine jm_cl_e (fun Q h => sc_74_s4 ?_) Q
  obtain ⟨x4, x5, x30, x31, x3, x6⟩ := hx
  rw [x4, x5]
  refine ⟨fun q => ?_, fun q => ⟨by omega, by omega, by rwa [jm_Bf (fun z => q z.1)] at h⟩⟩
  obtain ⟨w1, w2⟩ := l_wl_e s1 q
  have x3 := x3 (by omega)
  refine ⟨⟨by omega, by omega⟩, fun y => ?_, fun y => ⟨by omega, by omega, ?_⟩⟩
  · have hw : l_wl b n s = 5 := by omega
    have hrw : l_rw b s 5 = [b (s + 4), b (s + 3), b (s + 2), b (s + 1), b s] := by simp [l_rw]
    have no : ¬ (l_is b n s [104, 115, 97, 108, 115]) → Q (some (jm_I 0)) M := fun z => by rwa [jm_Bf z] at h
    have hq : l_is b n s [104, 115, 97, 108, 115] ↔ b (s + 4) = 104 ∧ b (s + 3) = 115 ∧ b (s + 2) = 97 ∧ b (s + 1) = 108 ∧ b s = 115 := by
      constructor
      · intro z
        have z := z.2
        rw [hw, hrw] at z
        simp only [List.cons.injEq, and_true] at z
        exact z
      · intro z
        refine ⟨q, ?_⟩
        rw [hw, hrw]
        simp only [List.cons.injEq, and_true]
        exact z
    refine sg_74_16_s4 ⟨fun _ => ?_, fun z => by omega⟩
    rw [x5, hb, show jm_chr [115, 108, 97, 115, 104] (Int.toNat (0)) = 115 from rfl, show s + (0) = s by omega]
    refine ⟨⟨by omega, by omega⟩, by omega, by omega, by omega, by omega, fun c0 => ⟨⟨by omega, by omega⟩, ?_⟩, fun c => ⟨by omega, by omega, no (fun z => ?_)⟩⟩
    rotate_left
    · rw [hq] at z
      omega
    refine sg_74_16_s4 ⟨fun _ => ?_, fun z => by omega⟩
    rw [x5, hb, show jm_chr [115, 108, 97, 115, 104] (Int.toNat (0 + 1)) = 108 from rfl, show s + (0 + 1) = s + 1 by omega]
    refine ⟨⟨by omega, by omega⟩, by omega, by omega, by omega, by omega, fun c1 => ⟨⟨by omega, by omega⟩, ?_⟩, fun c => ⟨by omega, by omega, no (fun z => ?_)⟩⟩
    rotate_left
    · rw [hq] at z
      omega
    refine sg_74_16_s4 ⟨fun _ => ?_, fun z => by omega⟩
    rw [x5, hb, show jm_chr [115, 108, 97, 115, 104] (Int.toNat (0 + 1 + 1)) = 97 from rfl, show s + (0 + 1 + 1) = s + 2 by omega]
    refine ⟨⟨by omega, by omega⟩, by omega, by omega, by omega, by omega, fun c2 => ⟨⟨by omega, by omega⟩, ?_⟩, fun c => ⟨by omega, by omega, no (fun z => ?_)⟩⟩
    rotate_left
    · rw [hq] at z
      omega
    refine sg_74_16_s4 ⟨fun _ => ?_, fun z => by omega⟩
    rw [x5, hb, show jm_chr [115, 108, 97, 115, 104] (Int.toNat (0 + 1 + 1 + 1)) = 115 from rfl, show s + (0 + 1 + 1 + 1) = s + 3 by omega]
    refine ⟨⟨by omega, by omega⟩, by omega, by omega, by omega, by omega, fun c3 => ⟨⟨by omega, by omega⟩, ?_⟩, fun c => ⟨by omega, by omega, no (fun z => ?_)⟩⟩
    rotate_left
    · rw [hq] at z
      omega
    refine sg_74_16_s4 ⟨fun _ => ?_, fun z => by omega⟩
    rw [x5, hb, show jm_chr [115, 108, 97, 115, 104] (Int.toNat (0 + 1 + 1 + 1 + 1)) = 104 from rfl, show s + (0 + 1 + 1 + 1 + 1) = s + 4 by omega]
    refine ⟨⟨by omega, by omega⟩, by omega, by omega, by omega, by omega, fun c4 => ⟨⟨by omega, by omega⟩, ?_⟩, fun c => ⟨by omega, by omega, no (fun z => ?_)⟩⟩
    rotate_left
    · rw [hq] at z
      omega
    refine sg_74_16_s4 ⟨fun z => by omega, fun _ => ⟨by omega, by omega, ?_⟩⟩
    rwa [jm_Bt (hq.2 ⟨c4, c3, c2, c1, c0⟩)] at h
  · rwa [jm_Bf] at h
    intro z
    have z := congrArg List.length z.2
    rw [l_rw_len] at z
    have z : l_wl b n s = 5 := z
    omega
theorem e_74_s5 {M : jm_Mem} {b : Int → Int} {n s : Int} (hb : M 66 = b) (n1 : n ≤ 600) (s0 : 0 ≤ s) (s1 : s ≤ n) (hx : l_nx b n s M) (Q : jm_Q) : jm_cl 74 [jm_R 65, jm_R 205] M Q ↔ Q (some (jm_I (jm_B (l_is b n s [107, 99, 97, 98])))) M := by
  refine jm_cl_e (fun Q h => sc_74_s5 ?_) Q
  obtain ⟨x4, x5, x30, x31, x3, x6⟩ := hx
  rw [x4, x5]
  refine ⟨fun q => ?_, fun q => ⟨by omega, by omega, by rwa [jm_Bf (fun z => q z.1)] at h⟩⟩
  obtain ⟨w1, w2⟩ := l_wl_e s1 q
  have x3 := x3 (by omega)
  refine ⟨⟨by omega, by omega⟩, fun y => ?_, fun y => ⟨by omega, by omega, ?_⟩⟩
  · have hw : l_wl b n s = 4 := by omega
    have hrw : l_rw b s 4 = [b (s + 3), b (s + 2), b (s + 1), b s] := by simp [l_rw]
    have no : ¬ (l_is b n s [107, 99, 97, 98]) → Q (some (jm_I 0)) M := fun z => by rwa [jm_Bf z] at h
    have hq : l_is b n s [107, 99, 97, 98] ↔ b (s + 3) = 107 ∧ b (s + 2) = 99 ∧ b (s + 1) = 97 ∧ b s = 98 := by
      constructor
      · intro z
        have z := z.2
        rw [hw, hrw] at z
        simp only [List.cons.injEq, and_true] at z
        exact z
      · intro z
        refine ⟨q, ?_⟩
        rw [hw, hrw]
        simp only [List.cons.injEq, and_true]
        exact z
    refine sg_74_16_s5 ⟨fun _ => ?_, fun z => by omega⟩
    rw [x5, hb, show jm_chr [98, 97, 99, 107] (Int.toNat (0)) = 98 from rfl, show s + (0) = s by omega]
    refine ⟨⟨by omega, by omega⟩, by omega, by omega, by omega, by omega, fun c0 => ⟨⟨by omega, by omega⟩, ?_⟩, fun c => ⟨by omega, by omega, no (fun z => ?_)⟩⟩
    rotate_left
    · rw [hq] at z
      omega
    refine sg_74_16_s5 ⟨fun _ => ?_, fun z => by omega⟩
    rw [x5, hb, show jm_chr [98, 97, 99, 107] (Int.toNat (0 + 1)) = 97 from rfl, show s + (0 + 1) = s + 1 by omega]
    refine ⟨⟨by omega, by omega⟩, by omega, by omega, by omega, by omega, fun c1 => ⟨⟨by omega, by omega⟩, ?_⟩, fun c => ⟨by omega, by omega, no (fun z => ?_)⟩⟩
    rotate_left
    · rw [hq] at z
      omega
    refine sg_74_16_s5 ⟨fun _ => ?_, fun z => by omega⟩
    rw [x5, hb, show jm_chr [98, 97, 99, 107] (Int.toNat (0 + 1 + 1)) = 99 from rfl, show s + (0 + 1 + 1) = s + 2 by omega]
    refine ⟨⟨by omega, by omega⟩, by omega, by omega, by omega, by omega, fun c2 => ⟨⟨by omega, by omega⟩, ?_⟩, fun c => ⟨by omega, by omega, no (fun z => ?_)⟩⟩
    rotate_left
    · rw [hq] at z
      omega
    refine sg_74_16_s5 ⟨fun _ => ?_, fun z => by omega⟩
    rw [x5, hb, show jm_chr [98, 97, 99, 107] (Int.toNat (0 + 1 + 1 + 1)) = 107 from rfl, show s + (0 + 1 + 1 + 1) = s + 3 by omega]
    refine ⟨⟨by omega, by omega⟩, by omega, by omega, by omega, by omega, fun c3 => ⟨⟨by omega, by omega⟩, ?_⟩, fun c => ⟨by omega, by omega, no (fun z => ?_)⟩⟩
    rotate_left
    · rw [hq] at z
      omega
    refine sg_74_16_s5 ⟨fun z => by omega, fun _ => ⟨by omega, by omega, ?_⟩⟩
    rwa [jm_Bt (hq.2 ⟨c3, c2, c1, c0⟩)] at h
  · rwa [jm_Bf] at h
    intro z
    have z := congrArg List.length z.2
    rw [l_rw_len] at z
    have z : l_wl b n s = 4 := z
    omega
