/-! CONSTRUCTORS: Net -/
def jc_ad (L : List Nat) (b : Nat) (adS : Nat → Nat) (c : Nat) : Nat := if b ≤ c ∧ c < b + L.length then L.getD (c - b) 0 else adS c
theorem jc_ad_o {L : List Nat} {b : Nat} {adS : Nat → Nat} {c : Nat} (h : ¬ (b ≤ c ∧ c < b + L.length)) : jc_ad L b adS c = adS c := if_neg h
def jc_wh (i : Int) : Int := if i = 4 then 3 else if i = 5 then 3 else 0
def jc_M0 : jm_Mem := fun c i => match c with
  | 2 => jc_wh i
  | 16 => jc_wh i
  | 23 => jc_wh i
  | 28 => jc_wh i
  | _ => 0
theorem jc_M0_ok : jm_okM jc_M0 := by
  intro c i _
  unfold jc_M0 jc_wh
  split <;> (try split) <;> (try split) <;> exact ⟨by decide, by decide⟩
/-- a grid of three by three, nothing told -/
def jn_F (M : jm_Mem) : Prop := z_C 3 3 (fun _ => 0) (fun _ => 0) (fun _ => 0) (fun _ => 0) M
theorem jc_rebuild : ∃ (n : Nat) (M1 : jm_Mem), jm_wp n 11 (0, jm_pad (.inr (.inl 1) :: []) (jm_mi 11).2.2.2.1, [], jc_M0) (fun r M' => r = none ∧ M' = M1) ∧ M1 999 = jc_M0 999 ∧ jn_F M1 := by
  have hg : g_ok 3 3 (fun _ => 0) := ⟨⟨by decide, by decide, by decide, by decide⟩, fun _ => ⟨Int.le_refl 0, (show (0 : Int) ≤ 2 by decide), fun z => absurd rfl z⟩⟩
  have h : jm_cl 11 [jm_R 1] jc_M0 (fun r M' => r = none ∧ M' 999 = jc_M0 999 ∧ jn_F M') := by
    refine p_11 hg ?_
    intro M' hT hf
    exact ⟨rfl, hf 999 (by decide), hT, hf 4 (by decide), hf 5 (by decide), hf 6 (by decide)⟩
  obtain ⟨n, hn⟩ := h
  obtain ⟨r, M', ⟨h1, h2, h3⟩, hall⟩ := jm_wp_det n _ _ _ hn
  exact ⟨n, M', hall n (Nat.le_refl _) _ ⟨h1, rfl⟩, h2, h3⟩
theorem jm_ctx_ad {dC : Nat → ClassId} {dI : Nat → Nat → Nat} {cA : Nat → ClassId} {ad ad' adV : Nat → Nat} {A : Nat → Prop} {U : State} {H : Heap} (e : ∀ i, ad' (200 + i) = ad (200 + i)) (h : jm_ctx dC dI cA ad adV A U H) : jm_ctx dC dI cA ad' adV A U H := by
  obtain ⟨h1, h2, h3, h4⟩ := h
  refine ⟨h1, ?_, fun i hi => ?_, h4⟩
  · rw [show (fun i => ad' (200 + i)) = (fun i => ad (200 + i)) from funext e]
    exact h2
  · rw [e i]; exact h3 i hi
theorem jm_nth_mem {α : Type} : ∀ (l : List α) (k : Nat) (a : α), jm_nth l k = some a → a ∈ l
  | [], _, _, h => nomatch h
  | b :: l, 0, a, h => by rw [Option.some.inj h]; exact List.mem_cons_self
  | b :: l, k + 1, a, h => List.mem_cons_of_mem _ (jm_nth_mem l k a h)
theorem jc_fk_mem {c k z : Nat} (h : jm_fk c k = some z) : z ∈ (jm_sh c).2.2 := jm_nth_mem _ _ _ h
def jc_cl (ids : List Nat) : Bool := ids.all (fun c => (jm_sh c).2.2.all (fun f => (Nat.blt (jm_sh c).1 10 || (Nat.blt f 3 || ids.contains (f - 3))) && (!(Nat.beq (jm_sh c).1 4) || ids.contains f)))
theorem jc_wok {cA : Nat → ClassId} {ad : Nat → Nat} {ids : List Nat} {M : jm_Mem} {A : Nat → Prop} (hD : va_D A (jm_wd cA ad ids M)) (hn : ids.Nodup) (hl : ∀ c ∈ ids, c < 95) (hc : jc_cl ids = true) : jm_wok ad ids A := by
  have hat : ∀ c ∈ ids, ∃ i : Nat, ids[i]? = some c ∧ (jm_wd cA ad ids M)[i]? = some (ad c, jm_ce cA ad M c) := fun c h => jm_wd_at h
  have hcl := List.all_eq_true.mp hc
  refine ⟨hn, hl, fun c hc1 d hd he => ?_, fun c hc1 => ?_, fun c hc1 h10 k t hk => ?_, fun c hc1 a b hs => ?_⟩
  · obtain ⟨i, a1, a2⟩ := hat c hc1
    obtain ⟨j, b1, b2⟩ := hat d hd
    have e := hD.1 i j _ _ a2 b2 he
    rw [e, b1] at a1
    exact (Option.some.inj a1).symm
  · obtain ⟨i, -, a2⟩ := hat c hc1
    exact hD.2 i _ a2
  · have h1 := List.all_eq_true.mp (hcl c hc1) (t + 3) (jc_fk_mem hk)
    simp only [Bool.and_eq_true, Bool.or_eq_true] at h1
    rcases h1.1 with h2 | h2 | h2
    · have := Nat.ble_eq.mp h2
      omega
    · have := Nat.ble_eq.mp h2
      omega
    · exact List.contains_iff_mem.mp h2
  · have h0 := hcl c hc1
    rw [hs] at h0
    have h1 := List.all_eq_true.mp h0
    refine ⟨?_, ?_⟩
    · have := h1 a List.mem_cons_self
      simp only [Bool.and_eq_true, Bool.or_eq_true] at this
      rcases this.2 with h2 | h2
      · exact absurd h2 (by decide)
      · exact List.contains_iff_mem.mp h2
    · have := h1 b (List.mem_cons_of_mem _ List.mem_cons_self)
      simp only [Bool.and_eq_true, Bool.or_eq_true] at this
      rcases this.2 with h2 | h2
      · exact absurd h2 (by decide)
      · exact List.contains_iff_mem.mp h2
set_option maxRecDepth 100000 in
theorem jcw_108 : lw_tbl[108]? = some (.initialized "PlanarFlow$Told") := rfl
set_option maxRecDepth 100000 in
theorem jcw_141 : lw_tbl[141]? = some (.methodLink RX2 3 Lib.objectInit) := rfl
set_option maxRecDepth 100000 in
theorem jcw_142 : lw_tbl[142]? = some (.classLink "PlanarFlow$Net" 9 "PlanarFlow$Told") := rfl
set_option maxRecDepth 100000 in
theorem jcw_143 : lw_tbl[143]? = some (.instantiable "PlanarFlow$Told" 6) := rfl
set_option maxRecDepth 100000 in
theorem jcw_145 : lw_tbl[145]? = some (.instanceMethod ⟨"PlanarFlow$Told", "<init>", "()V"⟩) := rfl
set_option maxRecDepth 100000 in
theorem jcw_146 : lw_tbl[146]? = some (.code yX8_init cX8_init 1 none) := rfl
set_option maxRecDepth 100000 in
theorem jcw_152 : lw_tbl[152]? = some (.fieldLink "PlanarFlow$Net" 18 "PlanarFlow$Told" "forth" "[I") := rfl
set_option maxRecDepth 100000 in
theorem jcw_154 : lw_tbl[154]? = some (.fieldLink "PlanarFlow$Net" 23 "PlanarFlow$Told" "hither" "[I") := rfl
set_option maxRecDepth 100000 in
theorem jcw_180 : lw_tbl[180]? = some (.methodLink RX2 54 yX2_rebuild) := rfl
set_option maxRecDepth 100000 in
theorem jcw_227 : lw_tbl[227]? = some (.fieldLink "PlanarFlow$Net" 12 "PlanarFlow$Net" "told" "LPlanarFlow$Told;") := rfl
set_option maxRecDepth 100000 in
theorem jcw_230 : lw_tbl[230]? = some (.fieldLink "PlanarFlow$Net" 22 "PlanarFlow$Net" "forth" "[I") := rfl
set_option maxRecDepth 100000 in
theorem jcw_237 : lw_tbl[237]? = some (.fieldLink "PlanarFlow$Net" 26 "PlanarFlow$Net" "hither" "[I") := rfl
set_option maxRecDepth 100000 in
theorem jcw_244 : lw_tbl[244]? = some (.fieldLink "PlanarFlow$Net" 27 "PlanarFlow$Net" "edgeList" "[I") := rfl
set_option maxRecDepth 100000 in
theorem jcw_251 : lw_tbl[251]? = some (.fieldLink "PlanarFlow$Net" 30 "PlanarFlow$Net" "tail" "[I") := rfl
set_option maxRecDepth 100000 in
theorem jcw_256 : lw_tbl[256]? = some (.fieldLink "PlanarFlow$Net" 33 "PlanarFlow$Net" "head" "[I") := rfl
set_option maxRecDepth 100000 in
theorem jcw_260 : lw_tbl[260]? = some (.fieldLink "PlanarFlow$Net" 36 "PlanarFlow$Net" "leftFace" "[I") := rfl
set_option maxRecDepth 100000 in
theorem jcw_267 : lw_tbl[267]? = some (.fieldLink "PlanarFlow$Net" 39 "PlanarFlow$Net" "rightFace" "[I") := rfl
set_option maxRecDepth 100000 in
theorem jcw_274 : lw_tbl[274]? = some (.fieldLink "PlanarFlow$Net" 42 "PlanarFlow$Net" "sides" "[I") := rfl
set_option maxRecDepth 100000 in
theorem jcw_276 : lw_tbl[276]? = some (.fieldLink "PlanarFlow$Net" 45 "PlanarFlow$Net" "darts" "[I") := rfl
set_option maxRecDepth 100000 in
theorem jcw_278 : lw_tbl[278]? = some (.fieldLink "PlanarFlow$Net" 48 "PlanarFlow$Net" "rimNodes" "[I") := rfl
set_option maxRecDepth 100000 in
theorem jcw_280 : lw_tbl[280]? = some (.fieldLink "PlanarFlow$Net" 51 "PlanarFlow$Net" "rimEdges" "[I") := rfl
theorem dX2_init_0 : decode cX2_init 0 = .ok (.aload_n 0, 1) := by decide +kernel
theorem dX2_init_1 : decode cX2_init 1 = .ok (.invokespecial 3, 3) := by decide +kernel
theorem dX2_init_4 : decode cX2_init 4 = .ok (.aload_n 0, 1) := by decide +kernel
theorem dX2_init_5 : decode cX2_init 5 = .ok (.new 9, 3) := by decide +kernel
theorem dX2_init_8 : decode cX2_init 8 = .ok (.dup, 1) := by decide +kernel
theorem dX2_init_9 : decode cX2_init 9 = .ok (.invokespecial 11, 3) := by decide +kernel
theorem dX2_init_12 : decode cX2_init 12 = .ok (.putfield 12, 3) := by decide +kernel
theorem dX2_init_15 : decode cX2_init 15 = .ok (.aload_n 0, 1) := by decide +kernel
theorem dX2_init_16 : decode cX2_init 16 = .ok (.aload_n 0, 1) := by decide +kernel
theorem dX2_init_17 : decode cX2_init 17 = .ok (.getfield 12, 3) := by decide +kernel
theorem dX2_init_20 : decode cX2_init 20 = .ok (.getfield 18, 3) := by decide +kernel
theorem dX2_init_23 : decode cX2_init 23 = .ok (.putfield 22, 3) := by decide +kernel
theorem dX2_init_26 : decode cX2_init 26 = .ok (.aload_n 0, 1) := by decide +kernel
theorem dX2_init_27 : decode cX2_init 27 = .ok (.aload_n 0, 1) := by decide +kernel
theorem dX2_init_28 : decode cX2_init 28 = .ok (.getfield 12, 3) := by decide +kernel
theorem dX2_init_31 : decode cX2_init 31 = .ok (.getfield 23, 3) := by decide +kernel
theorem dX2_init_34 : decode cX2_init 34 = .ok (.putfield 26, 3) := by decide +kernel
theorem dX2_init_37 : decode cX2_init 37 = .ok (.aload_n 0, 1) := by decide +kernel
theorem dX2_init_38 : decode cX2_init 38 = .ok (.bipush 108, 2) := by decide +kernel
theorem dX2_init_40 : decode cX2_init 40 = .ok (.newarray .int, 2) := by decide +kernel
theorem dX2_init_42 : decode cX2_init 42 = .ok (.putfield 27, 3) := by decide +kernel
theorem dX2_init_45 : decode cX2_init 45 = .ok (.aload_n 0, 1) := by decide +kernel
theorem dX2_init_46 : decode cX2_init 46 = .ok (.bipush 108, 2) := by decide +kernel
theorem dX2_init_48 : decode cX2_init 48 = .ok (.newarray .int, 2) := by decide +kernel
theorem dX2_init_50 : decode cX2_init 50 = .ok (.putfield 30, 3) := by decide +kernel
theorem dX2_init_53 : decode cX2_init 53 = .ok (.aload_n 0, 1) := by decide +kernel
theorem dX2_init_54 : decode cX2_init 54 = .ok (.bipush 108, 2) := by decide +kernel
theorem dX2_init_56 : decode cX2_init 56 = .ok (.newarray .int, 2) := by decide +kernel
theorem dX2_init_58 : decode cX2_init 58 = .ok (.putfield 33, 3) := by decide +kernel
theorem dX2_init_61 : decode cX2_init 61 = .ok (.aload_n 0, 1) := by decide +kernel
theorem dX2_init_62 : decode cX2_init 62 = .ok (.bipush 108, 2) := by decide +kernel
theorem dX2_init_64 : decode cX2_init 64 = .ok (.newarray .int, 2) := by decide +kernel
theorem dX2_init_66 : decode cX2_init 66 = .ok (.putfield 36, 3) := by decide +kernel
theorem dX2_init_69 : decode cX2_init 69 = .ok (.aload_n 0, 1) := by decide +kernel
theorem dX2_init_70 : decode cX2_init 70 = .ok (.bipush 108, 2) := by decide +kernel
theorem dX2_init_72 : decode cX2_init 72 = .ok (.newarray .int, 2) := by decide +kernel
theorem dX2_init_74 : decode cX2_init 74 = .ok (.putfield 39, 3) := by decide +kernel
theorem dX2_init_77 : decode cX2_init 77 = .ok (.aload_n 0, 1) := by decide +kernel
theorem dX2_init_78 : decode cX2_init 78 = .ok (.bipush 73, 2) := by decide +kernel
theorem dX2_init_80 : decode cX2_init 80 = .ok (.newarray .int, 2) := by decide +kernel
theorem dX2_init_82 : decode cX2_init 82 = .ok (.putfield 42, 3) := by decide +kernel
theorem dX2_init_85 : decode cX2_init 85 = .ok (.aload_n 0, 1) := by decide +kernel
theorem dX2_init_86 : decode cX2_init 86 = .ok (.sipush 288, 3) := by decide +kernel
theorem dX2_init_89 : decode cX2_init 89 = .ok (.newarray .int, 2) := by decide +kernel
theorem dX2_init_91 : decode cX2_init 91 = .ok (.putfield 45, 3) := by decide +kernel
theorem dX2_init_94 : decode cX2_init 94 = .ok (.aload_n 0, 1) := by decide +kernel
theorem dX2_init_95 : decode cX2_init 95 = .ok (.bipush 20, 2) := by decide +kernel
theorem dX2_init_97 : decode cX2_init 97 = .ok (.newarray .int, 2) := by decide +kernel
theorem dX2_init_99 : decode cX2_init 99 = .ok (.putfield 48, 3) := by decide +kernel
theorem dX2_init_102 : decode cX2_init 102 = .ok (.aload_n 0, 1) := by decide +kernel
theorem dX2_init_103 : decode cX2_init 103 = .ok (.bipush 20, 2) := by decide +kernel
theorem dX2_init_105 : decode cX2_init 105 = .ok (.newarray .int, 2) := by decide +kernel
theorem dX2_init_107 : decode cX2_init 107 = .ok (.putfield 51, 3) := by decide +kernel
theorem dX2_init_110 : decode cX2_init 110 = .ok (.aload_n 0, 1) := by decide +kernel
theorem dX2_init_111 : decode cX2_init 111 = .ok (.invokevirtual 54, 3) := by decide +kernel
theorem dX2_init_114 : decode cX2_init 114 = .ok (.return_, 1) := by decide +kernel
set_option maxHeartbeats 4000000 in
set_option maxRecDepth 100000 in
theorem jc_2 (l : Launch) (dC : Nat → ClassId) (dI : Nat → Nat → Nat) (cA : Nat → ClassId) (hl9 : l.stackTraces = false) (adS adV : Nat → Nat) (h0 sz : Nat) : Met l yX2_init (jc_ws yX2_init cX2_init 1) ({ frames := 4, cells := 14, slots := 1235, locals := 92 }) (va_Pc [.ref h0] (fun U => U.heap.size = sz ∧ va_P (dC, dI) vwCl [(h0, .inr (2, [.null, .null, .null, .null, .null, .null, .null, .null, .null, .null, .null, .null, .int 0, .int 0, .int 0, .int 0, .int 0]))] U.heap ∧ (jc_B dC dI cA U ∧ jm_ctx dC dI cA adS adV (va_A [(h0, .inr (2, [.null, .null, .null, .null, .null, .null, .null, .null, .null, .null, .null, .null, .int 0, .int 0, .int 0, .int 0, .int 0]))] sz) U U.heap) ∧ va_D (fun _ => True) [(h0, .inr (2, [.null, .null, .null, .null, .null, .null, .null, .null, .null, .null, .null, .null, .int 0, .int 0, .int 0, .int 0, .int 0]))])) (va_Qv (fun _ : (Nat → Nat) × jm_Mem => True) (fun u t => va_P (dC, dI) vwCl (jm_wd cA u.1 [1, 2, 3, 4, 5, 6, 7, 8, 9, 10, 11, 12, 13, 14, 15] u.2) t.heap ∧ va_D (va_A [(h0, .inr (2, [.null, .null, .null, .null, .null, .null, .null, .null, .null, .null, .null, .null, .int 0, .int 0, .int 0, .int 0, .int 0]))] sz) (jm_wd cA u.1 [1, 2, 3, 4, 5, 6, 7, 8, 9, 10, 11, 12, 13, 14, 15] u.2) ∧ u.1 1 = h0 ∧ (∀ i, u.1 (200 + i) = adS (200 + i)) ∧ jm_okM u.2 ∧ jn_F u.2) (va_A [(h0, .inr (2, [.null, .null, .null, .null, .null, .null, .null, .null, .null, .null, .null, .null, .int 0, .int 0, .int 0, .int 0, .int 0]))] sz)) 14 1235 (va_A [(h0, .inr (2, [.null, .null, .null, .null, .null, .null, .null, .null, .null, .null, .null, .null, .int 0, .int 0, .int 0, .int 0, .int 0]))] sz) := by
  refine Met.ofW (cc := cX2_init) (maxL := 1) (ret := none) (by decide) rfl ?_
  intro p e s m args below meth c s₁ B hml hv
  obtain ⟨rfl, hsz, hP, ⟨hB, hctx⟩, hD0⟩ := hv
  have hx := B.exec
  have hb := B.bytes
  have hr := B.returns
  have hts0 := atoms_spec (ws := jc_ws yX2_init cX2_init 1) B.pre
  have hts : ∀ w ∈ jm_g, w.before _ s = true := fun w h => hts0 w (List.mem_cons_of_mem _ h)
  have hown : s.vm.findClass RX2 = some m.cls := findClass_of_methodNamed B.named
  have hlocks := B.notSynchronized
  have hin : meth.name = "<init>" := (name_of_methodNamed B.named B.method).1
  have hK := hB.1
  subst hsz
  have hD := hD0.self (sz := s.heap.size)
  generalize hAe : va_A [(h0, .inr (2, [.null, .null, .null, .null, .null, .null, .null, .null, .null, .null, .null, .null, .int 0, .int 0, .int 0, .int 0, .int 0]))] s.heap.size = A at hctx hD ⊢
  have hA : ∀ q : Nat, s.heap.size ≤ q → A q := fun q h => by rw [← hAe]; exact Or.inr h
  have hS : va_S A s.heap s.heap [] := va_S.rf
  have hP : va_P (dC, dI) vwCl [(h0, .inr (2, [.null, .null, .null, .null, .null, .null, .null, .null, .null, .null, .null, .null, .int 0, .int 0, .int 0, .int 0, .int 0]))] s.heap := hP
  have hl := lv_entry ([.ref h0]) (n := 1) (Nat.le_of_ble_eq_true rfl)
  rw [lg_entry_eq]
  generalize (lg_sl ([.ref h0]) ++ List.replicate (1 - (lg_sl ([.ref h0])).length) Slot.unset).toArray = ls at hl ⊢
  have hl : lv_has ls 1 [(0, .ref h0)] := hl
  refine lv_aload_n hx hb dX2_init_0 rfl (lv_at hl 0 rfl) ?_
  refine W.objInit hx hb hown (hts _ (jm_in_g 141 jcw_141 rfl)) (hts _ (jm_in_g 134 jcw_134 rfl)) (hts _ (jm_in_g 135 jcw_oc rfl)) rfl (by rw [hml]; exact hl.1) rfl dX2_init_1 (Nat.le_of_ble_eq_true rfl) (Nat.le_of_ble_eq_true rfl) ?_
  refine W.eq (g2 := F0 m 4 ls []) rfl ?_
  refine lv_aload_n hx hb dX2_init_4 rfl (lv_at hl 0 rfl) ?_
  refine va_new (ci := 8) (fs := [.null, .null, .null, .null, .int 0, .int 0]) (C := RX8) (T := TX8) (N := 6) hx hb hts (jm_uws (ci := 8) (by decide)) tyX8 tyX8_ok hown (hts _ (jm_in_g 142 jcw_142 rfl)) (hts _ (jm_in_g 143 jcw_143 rfl)) (hts _ (jm_in_g 108 jcw_108 rfl)) hK hP hD hS hA rfl (fun j hj => match j, hj with | 0, _ => rfl | 1, _ => rfl | 2, _ => rfl | 3, _ => rfl | 4, _ => rfl | 5, _ => rfl | k + 6, h => absurd h (by omega)) (Nat.le_of_ble_eq_true rfl) (Nat.le_of_ble_eq_true rfl) dX2_init_5 (fun q1 H hP hD hS => ?_)
  have hP : va_P (dC, dI) vwCl [(h0, .inr (2, [.null, .null, .null, .null, .null, .null, .null, .null, .null, .null, .null, .null, .int 0, .int 0, .int 0, .int 0, .int 0])), (q1, .inr (8, [.null, .null, .null, .null, .int 0, .int 0]))] H := hP
  have hD : va_D A [(h0, .inr (2, [.null, .null, .null, .null, .null, .null, .null, .null, .null, .null, .null, .null, .int 0, .int 0, .int 0, .int 0, .int 0])), (q1, .inr (8, [.null, .null, .null, .null, .int 0, .int 0]))] := hD
  refine lv_dup hx hb dX2_init_8 rfl ?_
  have hPc := hP.sub (ws' := [(q1, .inr (8, [.null, .null, .null, .null, .int 0, .int 0]))]) [1] rfl
  have hDc := hD.sub (ws' := [(q1, .inr (8, [.null, .null, .null, .null, .int 0, .int 0]))]) [1] (by decide) rfl
  have hFc := va_free (wc := [(q1, .inr (8, [.null, .null, .null, .null, .int 0, .int 0]))]) hD hS hA [1] rfl
  refine va_callv (va_runIN (As := []) (rest := [.ref q1, .ref h0]) ⟨hx, hb, hml, hown, hts⟩ (jc_8 l dC dI cA q1 H.size) ⟨va_cnB 0 hts (jc_good (jm_in_g 146 jcw_146 rfl)) rfl rfl rfl (hB.2.1 _ (List.mem_of_getElem? (i := 0) rfl)) (hts _ (jm_in_g 108 jcw_108 rfl)) (by decide +kernel) ⟨Nat.le_of_ble_eq_true rfl, Nat.le_of_ble_eq_true rfl⟩, rfl, (hts _ (jm_in_g 145 jcw_145 rfl))⟩ ⟨fun a U g mk q => by obtain ⟨q0, q1, qP, qB, qD⟩ := q; exact ⟨q0, q1, qP, jc_B_blind qB, qD⟩, fun U hU hW => ⟨rfl, by rw [hU], by rw [hU]; exact hPc, jc_B_to hW hB, hDc.weaken (fun _ _ _ _ => trivial)⟩⟩ rfl rfl hl.1 rfl (lv_room (Nat.le_of_ble_eq_true rfl)) dX2_init_9 ⟨Nat.le_of_ble_eq_true rfl, Nat.le_of_ble_eq_true rfl⟩) hS (fun q _ h => hFc q h) hFc (fun v2 t H1 locs ht hvm hw hB1 hz1 hk1 hS => ?_)
  obtain ⟨hP1, hD1⟩ := hB1
  rw [ht] at hP1
  obtain ⟨hP, hD⟩ := va_join (wr := [(h0, .inr (2, [.null, .null, .null, .null, .null, .null, .null, .null, .null, .null, .null, .null, .int 0, .int 0, .int 0, .int 0, .int 0]))]) (w1 := (jw_8 cA q1 v2)) hP hD [1] [0] rfl rfl (by decide) (by decide) hk1 hFc hP1 hD1
  generalize H1 = H at hP hS ⊢
  have hP : va_P (dC, dI) vwCl [(h0, .inr (2, [.null, .null, .null, .null, .null, .null, .null, .null, .null, .null, .null, .null, .int 0, .int 0, .int 0, .int 0, .int 0])), (q1, .inr (8, [.ref (v2 0), .ref (v2 1), .ref (v2 2), .ref (v2 3), .int 3, .int 3])), ((v2 0), .inl (cA 0, 36, .inl (fun _ => 0))), ((v2 1), .inl (cA 0, 108, .inl (fun _ => 0))), ((v2 2), .inl (cA 0, 108, .inl (fun _ => 0))), ((v2 3), .inl (cA 0, 36, .inl (fun _ => 0)))] H := hP
  have hD : va_D A [(h0, .inr (2, [.null, .null, .null, .null, .null, .null, .null, .null, .null, .null, .null, .null, .int 0, .int 0, .int 0, .int 0, .int 0])), (q1, .inr (8, [.ref (v2 0), .ref (v2 1), .ref (v2 2), .ref (v2 3), .int 3, .int 3])), ((v2 0), .inl (cA 0, 36, .inl (fun _ => 0))), ((v2 1), .inl (cA 0, 108, .inl (fun _ => 0))), ((v2 2), .inl (cA 0, 108, .inl (fun _ => 0))), ((v2 3), .inl (cA 0, 36, .inl (fun _ => 0)))] := hD
  refine va_putF (D := (dC, dI)) (ci := 2) (v := .ref q1) (ty := (.object "PlanarFlow$Told")) (C := RX2) (T := TX2) (N := 17) hx hb hts (jm_uws (ci := 2) (by decide)) tyX2 tyX2_ok nmX2 hown hK hP hD hS 0 rfl rfl 0 (by decide) (hts _ (jm_in_g 227 jcw_227 rfl)) (fun _ h9 => h9) rfl hin rfl (by decide +kernel) rfl rfl (Nat.le_of_ble_eq_true rfl) dX2_init_12 (fun H locs hP hD hS => ?_)
  have hP : va_P (dC, dI) vwCl [(h0, .inr (2, [.ref q1, .null, .null, .null, .null, .null, .null, .null, .null, .null, .null, .null, .int 0, .int 0, .int 0, .int 0, .int 0])), (q1, .inr (8, [.ref (v2 0), .ref (v2 1), .ref (v2 2), .ref (v2 3), .int 3, .int 3])), ((v2 0), .inl (cA 0, 36, .inl (fun _ => 0))), ((v2 1), .inl (cA 0, 108, .inl (fun _ => 0))), ((v2 2), .inl (cA 0, 108, .inl (fun _ => 0))), ((v2 3), .inl (cA 0, 36, .inl (fun _ => 0)))] H := hP
  have hD : va_D A [(h0, .inr (2, [.ref q1, .null, .null, .null, .null, .null, .null, .null, .null, .null, .null, .null, .int 0, .int 0, .int 0, .int 0, .int 0])), (q1, .inr (8, [.ref (v2 0), .ref (v2 1), .ref (v2 2), .ref (v2 3), .int 3, .int 3])), ((v2 0), .inl (cA 0, 36, .inl (fun _ => 0))), ((v2 1), .inl (cA 0, 108, .inl (fun _ => 0))), ((v2 2), .inl (cA 0, 108, .inl (fun _ => 0))), ((v2 3), .inl (cA 0, 36, .inl (fun _ => 0)))] := hD
  refine lv_aload_n hx hb dX2_init_15 rfl (lv_at hl 0 rfl) ?_
  refine lv_aload_n hx hb dX2_init_16 rfl (lv_at hl 0 rfl) ?_
  refine va_get (D := (dC, dI)) (ci := 2) (v := .ref q1) (C := RX2) (T := TX2) (N := 17) hx hb hts (jm_uws (ci := 2) (by decide)) hown hK hP 0 rfl rfl 0 (by decide) (hts _ (jm_in_g 227 jcw_227 rfl)) (fun _ h9 => h9) rfl dX2_init_17 ?_
  refine va_get (D := (dC, dI)) (ci := 8) (v := .ref (v2 1)) (C := RX8) (T := TX8) (N := 6) hx hb hts (jm_uws (ci := 8) (by decide)) hown hK hP 1 rfl rfl 1 (by decide) (hts _ (jm_in_g 152 jcw_152 rfl)) (fun _ h9 => h9) rfl dX2_init_20 ?_
  refine va_putF (D := (dC, dI)) (ci := 2) (v := .ref (v2 1)) (ty := (.array .int)) (C := RX2) (T := TX2) (N := 17) hx hb hts (jm_uws (ci := 2) (by decide)) tyX2 tyX2_ok nmX2 hown hK hP hD hS 0 rfl rfl 1 (by decide) (hts _ (jm_in_g 230 jcw_230 rfl)) (fun _ h9 => h9) rfl hin rfl (by decide +kernel) rfl rfl (Nat.le_of_ble_eq_true rfl) dX2_init_23 (fun H locs hP hD hS => ?_)
  have hP : va_P (dC, dI) vwCl [(h0, .inr (2, [.ref q1, .ref (v2 1), .null, .null, .null, .null, .null, .null, .null, .null, .null, .null, .int 0, .int 0, .int 0, .int 0, .int 0])), (q1, .inr (8, [.ref (v2 0), .ref (v2 1), .ref (v2 2), .ref (v2 3), .int 3, .int 3])), ((v2 0), .inl (cA 0, 36, .inl (fun _ => 0))), ((v2 1), .inl (cA 0, 108, .inl (fun _ => 0))), ((v2 2), .inl (cA 0, 108, .inl (fun _ => 0))), ((v2 3), .inl (cA 0, 36, .inl (fun _ => 0)))] H := hP
  have hD : va_D A [(h0, .inr (2, [.ref q1, .ref (v2 1), .null, .null, .null, .null, .null, .null, .null, .null, .null, .null, .int 0, .int 0, .int 0, .int 0, .int 0])), (q1, .inr (8, [.ref (v2 0), .ref (v2 1), .ref (v2 2), .ref (v2 3), .int 3, .int 3])), ((v2 0), .inl (cA 0, 36, .inl (fun _ => 0))), ((v2 1), .inl (cA 0, 108, .inl (fun _ => 0))), ((v2 2), .inl (cA 0, 108, .inl (fun _ => 0))), ((v2 3), .inl (cA 0, 36, .inl (fun _ => 0)))] := hD
  refine lv_aload_n hx hb dX2_init_26 rfl (lv_at hl 0 rfl) ?_
  refine lv_aload_n hx hb dX2_init_27 rfl (lv_at hl 0 rfl) ?_
  refine va_get (D := (dC, dI)) (ci := 2) (v := .ref q1) (C := RX2) (T := TX2) (N := 17) hx hb hts (jm_uws (ci := 2) (by decide)) hown hK hP 0 rfl rfl 0 (by decide) (hts _ (jm_in_g 227 jcw_227 rfl)) (fun _ h9 => h9) rfl dX2_init_28 ?_
  refine va_get (D := (dC, dI)) (ci := 8) (v := .ref (v2 2)) (C := RX8) (T := TX8) (N := 6) hx hb hts (jm_uws (ci := 8) (by decide)) hown hK hP 1 rfl rfl 2 (by decide) (hts _ (jm_in_g 154 jcw_154 rfl)) (fun _ h9 => h9) rfl dX2_init_31 ?_
  refine va_putF (D := (dC, dI)) (ci := 2) (v := .ref (v2 2)) (ty := (.array .int)) (C := RX2) (T := TX2) (N := 17) hx hb hts (jm_uws (ci := 2) (by decide)) tyX2 tyX2_ok nmX2 hown hK hP hD hS 0 rfl rfl 2 (by decide) (hts _ (jm_in_g 237 jcw_237 rfl)) (fun _ h9 => h9) rfl hin rfl (by decide +kernel) rfl rfl (Nat.le_of_ble_eq_true rfl) dX2_init_34 (fun H locs hP hD hS => ?_)
  have hP : va_P (dC, dI) vwCl [(h0, .inr (2, [.ref q1, .ref (v2 1), .ref (v2 2), .null, .null, .null, .null, .null, .null, .null, .null, .null, .int 0, .int 0, .int 0, .int 0, .int 0])), (q1, .inr (8, [.ref (v2 0), .ref (v2 1), .ref (v2 2), .ref (v2 3), .int 3, .int 3])), ((v2 0), .inl (cA 0, 36, .inl (fun _ => 0))), ((v2 1), .inl (cA 0, 108, .inl (fun _ => 0))), ((v2 2), .inl (cA 0, 108, .inl (fun _ => 0))), ((v2 3), .inl (cA 0, 36, .inl (fun _ => 0)))] H := hP
  have hD : va_D A [(h0, .inr (2, [.ref q1, .ref (v2 1), .ref (v2 2), .null, .null, .null, .null, .null, .null, .null, .null, .null, .int 0, .int 0, .int 0, .int 0, .int 0])), (q1, .inr (8, [.ref (v2 0), .ref (v2 1), .ref (v2 2), .ref (v2 3), .int 3, .int 3])), ((v2 0), .inl (cA 0, 36, .inl (fun _ => 0))), ((v2 1), .inl (cA 0, 108, .inl (fun _ => 0))), ((v2 2), .inl (cA 0, 108, .inl (fun _ => 0))), ((v2 3), .inl (cA 0, 36, .inl (fun _ => 0)))] := hD
  refine lv_aload_n hx hb dX2_init_37 rfl (lv_at hl 0 rfl) ?_
  refine lv_bipush (v := 108) hx hb dX2_init_38 rfl ?_
  refine jc_newa (atype := .int) (ty := .int) (N' := 108) (a0 := (108, .inl (fun _ => 0))) (cX := cA 0) hx hb (hts _ (jm_in_g 179 jcw_179 rfl)) rfl hK hP hD hS hA (fun _ => rfl) (by decide) rfl (Nat.le_of_ble_eq_true rfl) (Nat.le_of_ble_eq_true rfl) (Nat.le_of_ble_eq_true rfl) dX2_init_40 0 rfl (fun _ _ h1 h2 => Option.some.inj (h1.symm.trans h2)) (fun q3 H hP hD hS => ?_)
  have hP : va_P (dC, dI) vwCl [(h0, .inr (2, [.ref q1, .ref (v2 1), .ref (v2 2), .null, .null, .null, .null, .null, .null, .null, .null, .null, .int 0, .int 0, .int 0, .int 0, .int 0])), (q1, .inr (8, [.ref (v2 0), .ref (v2 1), .ref (v2 2), .ref (v2 3), .int 3, .int 3])), ((v2 0), .inl (cA 0, 36, .inl (fun _ => 0))), ((v2 1), .inl (cA 0, 108, .inl (fun _ => 0))), ((v2 2), .inl (cA 0, 108, .inl (fun _ => 0))), ((v2 3), .inl (cA 0, 36, .inl (fun _ => 0))), (q3, .inl (cA 0, 108, .inl (fun _ => 0)))] H := hP
  have hD : va_D A [(h0, .inr (2, [.ref q1, .ref (v2 1), .ref (v2 2), .null, .null, .null, .null, .null, .null, .null, .null, .null, .int 0, .int 0, .int 0, .int 0, .int 0])), (q1, .inr (8, [.ref (v2 0), .ref (v2 1), .ref (v2 2), .ref (v2 3), .int 3, .int 3])), ((v2 0), .inl (cA 0, 36, .inl (fun _ => 0))), ((v2 1), .inl (cA 0, 108, .inl (fun _ => 0))), ((v2 2), .inl (cA 0, 108, .inl (fun _ => 0))), ((v2 3), .inl (cA 0, 36, .inl (fun _ => 0))), (q3, .inl (cA 0, 108, .inl (fun _ => 0)))] := hD
  refine va_putF (D := (dC, dI)) (ci := 2) (v := .ref q3) (ty := (.array .int)) (C := RX2) (T := TX2) (N := 17) hx hb hts (jm_uws (ci := 2) (by decide)) tyX2 tyX2_ok nmX2 hown hK hP hD hS 0 rfl rfl 3 (by decide) (hts _ (jm_in_g 244 jcw_244 rfl)) (fun _ h9 => h9) rfl hin rfl (by decide +kernel) rfl rfl (Nat.le_of_ble_eq_true rfl) dX2_init_42 (fun H locs hP hD hS => ?_)
  have hP : va_P (dC, dI) vwCl [(h0, .inr (2, [.ref q1, .ref (v2 1), .ref (v2 2), .ref q3, .null, .null, .null, .null, .null, .null, .null, .null, .int 0, .int 0, .int 0, .int 0, .int 0])), (q1, .inr (8, [.ref (v2 0), .ref (v2 1), .ref (v2 2), .ref (v2 3), .int 3, .int 3])), ((v2 0), .inl (cA 0, 36, .inl (fun _ => 0))), ((v2 1), .inl (cA 0, 108, .inl (fun _ => 0))), ((v2 2), .inl (cA 0, 108, .inl (fun _ => 0))), ((v2 3), .inl (cA 0, 36, .inl (fun _ => 0))), (q3, .inl (cA 0, 108, .inl (fun _ => 0)))] H := hP
  have hD : va_D A [(h0, .inr (2, [.ref q1, .ref (v2 1), .ref (v2 2), .ref q3, .null, .null, .null, .null, .null, .null, .null, .null, .int 0, .int 0, .int 0, .int 0, .int 0])), (q1, .inr (8, [.ref (v2 0), .ref (v2 1), .ref (v2 2), .ref (v2 3), .int 3, .int 3])), ((v2 0), .inl (cA 0, 36, .inl (fun _ => 0))), ((v2 1), .inl (cA 0, 108, .inl (fun _ => 0))), ((v2 2), .inl (cA 0, 108, .inl (fun _ => 0))), ((v2 3), .inl (cA 0, 36, .inl (fun _ => 0))), (q3, .inl (cA 0, 108, .inl (fun _ => 0)))] := hD
  refine lv_aload_n hx hb dX2_init_45 rfl (lv_at hl 0 rfl) ?_
  refine lv_bipush (v := 108) hx hb dX2_init_46 rfl ?_
  refine jc_newa (atype := .int) (ty := .int) (N' := 108) (a0 := (108, .inl (fun _ => 0))) (cX := cA 0) hx hb (hts _ (jm_in_g 179 jcw_179 rfl)) rfl hK hP hD hS hA (fun _ => rfl) (by decide) rfl (Nat.le_of_ble_eq_true rfl) (Nat.le_of_ble_eq_true rfl) (Nat.le_of_ble_eq_true rfl) dX2_init_48 0 rfl (fun _ _ h1 h2 => Option.some.inj (h1.symm.trans h2)) (fun q4 H hP hD hS => ?_)
  have hP : va_P (dC, dI) vwCl [(h0, .inr (2, [.ref q1, .ref (v2 1), .ref (v2 2), .ref q3, .null, .null, .null, .null, .null, .null, .null, .null, .int 0, .int 0, .int 0, .int 0, .int 0])), (q1, .inr (8, [.ref (v2 0), .ref (v2 1), .ref (v2 2), .ref (v2 3), .int 3, .int 3])), ((v2 0), .inl (cA 0, 36, .inl (fun _ => 0))), ((v2 1), .inl (cA 0, 108, .inl (fun _ => 0))), ((v2 2), .inl (cA 0, 108, .inl (fun _ => 0))), ((v2 3), .inl (cA 0, 36, .inl (fun _ => 0))), (q3, .inl (cA 0, 108, .inl (fun _ => 0))), (q4, .inl (cA 0, 108, .inl (fun _ => 0)))] H := hP
  have hD : va_D A [(h0, .inr (2, [.ref q1, .ref (v2 1), .ref (v2 2), .ref q3, .null, .null, .null, .null, .null, .null, .null, .null, .int 0, .int 0, .int 0, .int 0, .int 0])), (q1, .inr (8, [.ref (v2 0), .ref (v2 1), .ref (v2 2), .ref (v2 3), .int 3, .int 3])), ((v2 0), .inl (cA 0, 36, .inl (fun _ => 0))), ((v2 1), .inl (cA 0, 108, .inl (fun _ => 0))), ((v2 2), .inl (cA 0, 108, .inl (fun _ => 0))), ((v2 3), .inl (cA 0, 36, .inl (fun _ => 0))), (q3, .inl (cA 0, 108, .inl (fun _ => 0))), (q4, .inl (cA 0, 108, .inl (fun _ => 0)))] := hD
  refine va_putF (D := (dC, dI)) (ci := 2) (v := .ref q4) (ty := (.array .int)) (C := RX2) (T := TX2) (N := 17) hx hb hts (jm_uws (ci := 2) (by decide)) tyX2 tyX2_ok nmX2 hown hK hP hD hS 0 rfl rfl 4 (by decide) (hts _ (jm_in_g 251 jcw_251 rfl)) (fun _ h9 => h9) rfl hin rfl (by decide +kernel) rfl rfl (Nat.le_of_ble_eq_true rfl) dX2_init_50 (fun H locs hP hD hS => ?_)
  have hP : va_P (dC, dI) vwCl [(h0, .inr (2, [.ref q1, .ref (v2 1), .ref (v2 2), .ref q3, .ref q4, .null, .null, .null, .null, .null, .null, .null, .int 0, .int 0, .int 0, .int 0, .int 0])), (q1, .inr (8, [.ref (v2 0), .ref (v2 1), .ref (v2 2), .ref (v2 3), .int 3, .int 3])), ((v2 0), .inl (cA 0, 36, .inl (fun _ => 0))), ((v2 1), .inl (cA 0, 108, .inl (fun _ => 0))), ((v2 2), .inl (cA 0, 108, .inl (fun _ => 0))), ((v2 3), .inl (cA 0, 36, .inl (fun _ => 0))), (q3, .inl (cA 0, 108, .inl (fun _ => 0))), (q4, .inl (cA 0, 108, .inl (fun _ => 0)))] H := hP
  have hD : va_D A [(h0, .inr (2, [.ref q1, .ref (v2 1), .ref (v2 2), .ref q3, .ref q4, .null, .null, .null, .null, .null, .null, .null, .int 0, .int 0, .int 0, .int 0, .int 0])), (q1, .inr (8, [.ref (v2 0), .ref (v2 1), .ref (v2 2), .ref (v2 3), .int 3, .int 3])), ((v2 0), .inl (cA 0, 36, .inl (fun _ => 0))), ((v2 1), .inl (cA 0, 108, .inl (fun _ => 0))), ((v2 2), .inl (cA 0, 108, .inl (fun _ => 0))), ((v2 3), .inl (cA 0, 36, .inl (fun _ => 0))), (q3, .inl (cA 0, 108, .inl (fun _ => 0))), (q4, .inl (cA 0, 108, .inl (fun _ => 0)))] := hD
  refine lv_aload_n hx hb dX2_init_53 rfl (lv_at hl 0 rfl) ?_
  refine lv_bipush (v := 108) hx hb dX2_init_54 rfl ?_
  refine jc_newa (atype := .int) (ty := .int) (N' := 108) (a0 := (108, .inl (fun _ => 0))) (cX := cA 0) hx hb (hts _ (jm_in_g 179 jcw_179 rfl)) rfl hK hP hD hS hA (fun _ => rfl) (by decide) rfl (Nat.le_of_ble_eq_true rfl) (Nat.le_of_ble_eq_true rfl) (Nat.le_of_ble_eq_true rfl) dX2_init_56 0 rfl (fun _ _ h1 h2 => Option.some.inj (h1.symm.trans h2)) (fun q5 H hP hD hS => ?_)
  have hP : va_P (dC, dI) vwCl [(h0, .inr (2, [.ref q1, .ref (v2 1), .ref (v2 2), .ref q3, .ref q4, .null, .null, .null, .null, .null, .null, .null, .int 0, .int 0, .int 0, .int 0, .int 0])), (q1, .inr (8, [.ref (v2 0), .ref (v2 1), .ref (v2 2), .ref (v2 3), .int 3, .int 3])), ((v2 0), .inl (cA 0, 36, .inl (fun _ => 0))), ((v2 1), .inl (cA 0, 108, .inl (fun _ => 0))), ((v2 2), .inl (cA 0, 108, .inl (fun _ => 0))), ((v2 3), .inl (cA 0, 36, .inl (fun _ => 0))), (q3, .inl (cA 0, 108, .inl (fun _ => 0))), (q4, .inl (cA 0, 108, .inl (fun _ => 0))), (q5, .inl (cA 0, 108, .inl (fun _ => 0)))] H := hP
  have hD : va_D A [(h0, .inr (2, [.ref q1, .ref (v2 1), .ref (v2 2), .ref q3, .ref q4, .null, .null, .null, .null, .null, .null, .null, .int 0, .int 0, .int 0, .int 0, .int 0])), (q1, .inr (8, [.ref (v2 0), .ref (v2 1), .ref (v2 2), .ref (v2 3), .int 3, .int 3])), ((v2 0), .inl (cA 0, 36, .inl (fun _ => 0))), ((v2 1), .inl (cA 0, 108, .inl (fun _ => 0))), ((v2 2), .inl (cA 0, 108, .inl (fun _ => 0))), ((v2 3), .inl (cA 0, 36, .inl (fun _ => 0))), (q3, .inl (cA 0, 108, .inl (fun _ => 0))), (q4, .inl (cA 0, 108, .inl (fun _ => 0))), (q5, .inl (cA 0, 108, .inl (fun _ => 0)))] := hD
  refine va_putF (D := (dC, dI)) (ci := 2) (v := .ref q5) (ty := (.array .int)) (C := RX2) (T := TX2) (N := 17) hx hb hts (jm_uws (ci := 2) (by decide)) tyX2 tyX2_ok nmX2 hown hK hP hD hS 0 rfl rfl 5 (by decide) (hts _ (jm_in_g 256 jcw_256 rfl)) (fun _ h9 => h9) rfl hin rfl (by decide +kernel) rfl rfl (Nat.le_of_ble_eq_true rfl) dX2_init_58 (fun H locs hP hD hS => ?_)
  have hP : va_P (dC, dI) vwCl [(h0, .inr (2, [.ref q1, .ref (v2 1), .ref (v2 2), .ref q3, .ref q4, .ref q5, .null, .null, .null, .null, .null, .null, .int 0, .int 0, .int 0, .int 0, .int 0])), (q1, .inr (8, [.ref (v2 0), .ref (v2 1), .ref (v2 2), .ref (v2 3), .int 3, .int 3])), ((v2 0), .inl (cA 0, 36, .inl (fun _ => 0))), ((v2 1), .inl (cA 0, 108, .inl (fun _ => 0))), ((v2 2), .inl (cA 0, 108, .inl (fun _ => 0))), ((v2 3), .inl (cA 0, 36, .inl (fun _ => 0))), (q3, .inl (cA 0, 108, .inl (fun _ => 0))), (q4, .inl (cA 0, 108, .inl (fun _ => 0))), (q5, .inl (cA 0, 108, .inl (fun _ => 0)))] H := hP
  have hD : va_D A [(h0, .inr (2, [.ref q1, .ref (v2 1), .ref (v2 2), .ref q3, .ref q4, .ref q5, .null, .null, .null, .null, .null, .null, .int 0, .int 0, .int 0, .int 0, .int 0])), (q1, .inr (8, [.ref (v2 0), .ref (v2 1), .ref (v2 2), .ref (v2 3), .int 3, .int 3])), ((v2 0), .inl (cA 0, 36, .inl (fun _ => 0))), ((v2 1), .inl (cA 0, 108, .inl (fun _ => 0))), ((v2 2), .inl (cA 0, 108, .inl (fun _ => 0))), ((v2 3), .inl (cA 0, 36, .inl (fun _ => 0))), (q3, .inl (cA 0, 108, .inl (fun _ => 0))), (q4, .inl (cA 0, 108, .inl (fun _ => 0))), (q5, .inl (cA 0, 108, .inl (fun _ => 0)))] := hD
  refine lv_aload_n hx hb dX2_init_61 rfl (lv_at hl 0 rfl) ?_
  refine lv_bipush (v := 108) hx hb dX2_init_62 rfl ?_
  refine jc_newa (atype := .int) (ty := .int) (N' := 108) (a0 := (108, .inl (fun _ => 0))) (cX := cA 0) hx hb (hts _ (jm_in_g 179 jcw_179 rfl)) rfl hK hP hD hS hA (fun _ => rfl) (by decide) rfl (Nat.le_of_ble_eq_true rfl) (Nat.le_of_ble_eq_true rfl) (Nat.le_of_ble_eq_true rfl) dX2_init_64 0 rfl (fun _ _ h1 h2 => Option.some.inj (h1.symm.trans h2)) (fun q6 H hP hD hS => ?_)
  have hP : va_P (dC, dI) vwCl [(h0, .inr (2, [.ref q1, .ref (v2 1), .ref (v2 2), .ref q3, .ref q4, .ref q5, .null, .null, .null, .null, .null, .null, .int 0, .int 0, .int 0, .int 0, .int 0])), (q1, .inr (8, [.ref (v2 0), .ref (v2 1), .ref (v2 2), .ref (v2 3), .int 3, .int 3])), ((v2 0), .inl (cA 0, 36, .inl (fun _ => 0))), ((v2 1), .inl (cA 0, 108, .inl (fun _ => 0))), ((v2 2), .inl (cA 0, 108, .inl (fun _ => 0))), ((v2 3), .inl (cA 0, 36, .inl (fun _ => 0))), (q3, .inl (cA 0, 108, .inl (fun _ => 0))), (q4, .inl (cA 0, 108, .inl (fun _ => 0))), (q5, .inl (cA 0, 108, .inl (fun _ => 0))), (q6, .inl (cA 0, 108, .inl (fun _ => 0)))] H := hP
  have hD : va_D A [(h0, .inr (2, [.ref q1, .ref (v2 1), .ref (v2 2), .ref q3, .ref q4, .ref q5, .null, .null, .null, .null, .null, .null, .int 0, .int 0, .int 0, .int 0, .int 0])), (q1, .inr (8, [.ref (v2 0), .ref (v2 1), .ref (v2 2), .ref (v2 3), .int 3, .int 3])), ((v2 0), .inl (cA 0, 36, .inl (fun _ => 0))), ((v2 1), .inl (cA 0, 108, .inl (fun _ => 0))), ((v2 2), .inl (cA 0, 108, .inl (fun _ => 0))), ((v2 3), .inl (cA 0, 36, .inl (fun _ => 0))), (q3, .inl (cA 0, 108, .inl (fun _ => 0))), (q4, .inl (cA 0, 108, .inl (fun _ => 0))), (q5, .inl (cA 0, 108, .inl (fun _ => 0))), (q6, .inl (cA 0, 108, .inl (fun _ => 0)))] := hD
  refine va_putF (D := (dC, dI)) (ci := 2) (v := .ref q6) (ty := (.array .int)) (C := RX2) (T := TX2) (N := 17) hx hb hts (jm_uws (ci := 2) (by decide)) tyX2 tyX2_ok nmX2 hown hK hP hD hS 0 rfl rfl 6 (by decide) (hts _ (jm_in_g 260 jcw_260 rfl)) (fun _ h9 => h9) rfl hin rfl (by decide +kernel) rfl rfl (Nat.le_of_ble_eq_true rfl) dX2_init_66 (fun H locs hP hD hS => ?_)
  have hP : va_P (dC, dI) vwCl [(h0, .inr (2, [.ref q1, .ref (v2 1), .ref (v2 2), .ref q3, .ref q4, .ref q5, .ref q6, .null, .null, .null, .null, .null, .int 0, .int 0, .int 0, .int 0, .int 0])), (q1, .inr (8, [.ref (v2 0), .ref (v2 1), .ref (v2 2), .ref (v2 3), .int 3, .int 3])), ((v2 0), .inl (cA 0, 36, .inl (fun _ => 0))), ((v2 1), .inl (cA 0, 108, .inl (fun _ => 0))), ((v2 2), .inl (cA 0, 108, .inl (fun _ => 0))), ((v2 3), .inl (cA 0, 36, .inl (fun _ => 0))), (q3, .inl (cA 0, 108, .inl (fun _ => 0))), (q4, .inl (cA 0, 108, .inl (fun _ => 0))), (q5, .inl (cA 0, 108, .inl (fun _ => 0))), (q6, .inl (cA 0, 108, .inl (fun _ => 0)))] H := hP
  have hD : va_D A [(h0, .inr (2, [.ref q1, .ref (v2 1), .ref (v2 2), .ref q3, .ref q4, .ref q5, .ref q6, .null, .null, .null, .null, .null, .int 0, .int 0, .int 0, .int 0, .int 0])), (q1, .inr (8, [.ref (v2 0), .ref (v2 1), .ref (v2 2), .ref (v2 3), .int 3, .int 3])), ((v2 0), .inl (cA 0, 36, .inl (fun _ => 0))), ((v2 1), .inl (cA 0, 108, .inl (fun _ => 0))), ((v2 2), .inl (cA 0, 108, .inl (fun _ => 0))), ((v2 3), .inl (cA 0, 36, .inl (fun _ => 0))), (q3, .inl (cA 0, 108, .inl (fun _ => 0))), (q4, .inl (cA 0, 108, .inl (fun _ => 0))), (q5, .inl (cA 0, 108, .inl (fun _ => 0))), (q6, .inl (cA 0, 108, .inl (fun _ => 0)))] := hD
  refine lv_aload_n hx hb dX2_init_69 rfl (lv_at hl 0 rfl) ?_
  refine lv_bipush (v := 108) hx hb dX2_init_70 rfl ?_
  refine jc_newa (atype := .int) (ty := .int) (N' := 108) (a0 := (108, .inl (fun _ => 0))) (cX := cA 0) hx hb (hts _ (jm_in_g 179 jcw_179 rfl)) rfl hK hP hD hS hA (fun _ => rfl) (by decide) rfl (Nat.le_of_ble_eq_true rfl) (Nat.le_of_ble_eq_true rfl) (Nat.le_of_ble_eq_true rfl) dX2_init_72 0 rfl (fun _ _ h1 h2 => Option.some.inj (h1.symm.trans h2)) (fun q7 H hP hD hS => ?_)
  have hP : va_P (dC, dI) vwCl [(h0, .inr (2, [.ref q1, .ref (v2 1), .ref (v2 2), .ref q3, .ref q4, .ref q5, .ref q6, .null, .null, .null, .null, .null, .int 0, .int 0, .int 0, .int 0, .int 0])), (q1, .inr (8, [.ref (v2 0), .ref (v2 1), .ref (v2 2), .ref (v2 3), .int 3, .int 3])), ((v2 0), .inl (cA 0, 36, .inl (fun _ => 0))), ((v2 1), .inl (cA 0, 108, .inl (fun _ => 0))), ((v2 2), .inl (cA 0, 108, .inl (fun _ => 0))), ((v2 3), .inl (cA 0, 36, .inl (fun _ => 0))), (q3, .inl (cA 0, 108, .inl (fun _ => 0))), (q4, .inl (cA 0, 108, .inl (fun _ => 0))), (q5, .inl (cA 0, 108, .inl (fun _ => 0))), (q6, .inl (cA 0, 108, .inl (fun _ => 0))), (q7, .inl (cA 0, 108, .inl (fun _ => 0)))] H := hP
  have hD : va_D A [(h0, .inr (2, [.ref q1, .ref (v2 1), .ref (v2 2), .ref q3, .ref q4, .ref q5, .ref q6, .null, .null, .null, .null, .null, .int 0, .int 0, .int 0, .int 0, .int 0])), (q1, .inr (8, [.ref (v2 0), .ref (v2 1), .ref (v2 2), .ref (v2 3), .int 3, .int 3])), ((v2 0), .inl (cA 0, 36, .inl (fun _ => 0))), ((v2 1), .inl (cA 0, 108, .inl (fun _ => 0))), ((v2 2), .inl (cA 0, 108, .inl (fun _ => 0))), ((v2 3), .inl (cA 0, 36, .inl (fun _ => 0))), (q3, .inl (cA 0, 108, .inl (fun _ => 0))), (q4, .inl (cA 0, 108, .inl (fun _ => 0))), (q5, .inl (cA 0, 108, .inl (fun _ => 0))), (q6, .inl (cA 0, 108, .inl (fun _ => 0))), (q7, .inl (cA 0, 108, .inl (fun _ => 0)))] := hD
  refine va_putF (D := (dC, dI)) (ci := 2) (v := .ref q7) (ty := (.array .int)) (C := RX2) (T := TX2) (N := 17) hx hb hts (jm_uws (ci := 2) (by decide)) tyX2 tyX2_ok nmX2 hown hK hP hD hS 0 rfl rfl 7 (by decide) (hts _ (jm_in_g 267 jcw_267 rfl)) (fun _ h9 => h9) rfl hin rfl (by decide +kernel) rfl rfl (Nat.le_of_ble_eq_true rfl) dX2_init_74 (fun H locs hP hD hS => ?_)
  have hP : va_P (dC, dI) vwCl [(h0, .inr (2, [.ref q1, .ref (v2 1), .ref (v2 2), .ref q3, .ref q4, .ref q5, .ref q6, .ref q7, .null, .null, .null, .null, .int 0, .int 0, .int 0, .int 0, .int 0])), (q1, .inr (8, [.ref (v2 0), .ref (v2 1), .ref (v2 2), .ref (v2 3), .int 3, .int 3])), ((v2 0), .inl (cA 0, 36, .inl (fun _ => 0))), ((v2 1), .inl (cA 0, 108, .inl (fun _ => 0))), ((v2 2), .inl (cA 0, 108, .inl (fun _ => 0))), ((v2 3), .inl (cA 0, 36, .inl (fun _ => 0))), (q3, .inl (cA 0, 108, .inl (fun _ => 0))), (q4, .inl (cA 0, 108, .inl (fun _ => 0))), (q5, .inl (cA 0, 108, .inl (fun _ => 0))), (q6, .inl (cA 0, 108, .inl (fun _ => 0))), (q7, .inl (cA 0, 108, .inl (fun _ => 0)))] H := hP
  have hD : va_D A [(h0, .inr (2, [.ref q1, .ref (v2 1), .ref (v2 2), .ref q3, .ref q4, .ref q5, .ref q6, .ref q7, .null, .null, .null, .null, .int 0, .int 0, .int 0, .int 0, .int 0])), (q1, .inr (8, [.ref (v2 0), .ref (v2 1), .ref (v2 2), .ref (v2 3), .int 3, .int 3])), ((v2 0), .inl (cA 0, 36, .inl (fun _ => 0))), ((v2 1), .inl (cA 0, 108, .inl (fun _ => 0))), ((v2 2), .inl (cA 0, 108, .inl (fun _ => 0))), ((v2 3), .inl (cA 0, 36, .inl (fun _ => 0))), (q3, .inl (cA 0, 108, .inl (fun _ => 0))), (q4, .inl (cA 0, 108, .inl (fun _ => 0))), (q5, .inl (cA 0, 108, .inl (fun _ => 0))), (q6, .inl (cA 0, 108, .inl (fun _ => 0))), (q7, .inl (cA 0, 108, .inl (fun _ => 0)))] := hD
  refine lv_aload_n hx hb dX2_init_77 rfl (lv_at hl 0 rfl) ?_
  refine lv_bipush (v := 73) hx hb dX2_init_78 rfl ?_
  refine jc_newa (atype := .int) (ty := .int) (N' := 73) (a0 := (73, .inl (fun _ => 0))) (cX := cA 0) hx hb (hts _ (jm_in_g 179 jcw_179 rfl)) rfl hK hP hD hS hA (fun _ => rfl) (by decide) rfl (Nat.le_of_ble_eq_true rfl) (Nat.le_of_ble_eq_true rfl) (Nat.le_of_ble_eq_true rfl) dX2_init_80 0 rfl (fun _ _ h1 h2 => Option.some.inj (h1.symm.trans h2)) (fun q8 H hP hD hS => ?_)
  have hP : va_P (dC, dI) vwCl [(h0, .inr (2, [.ref q1, .ref (v2 1), .ref (v2 2), .ref q3, .ref q4, .ref q5, .ref q6, .ref q7, .null, .null, .null, .null, .int 0, .int 0, .int 0, .int 0, .int 0])), (q1, .inr (8, [.ref (v2 0), .ref (v2 1), .ref (v2 2), .ref (v2 3), .int 3, .int 3])), ((v2 0), .inl (cA 0, 36, .inl (fun _ => 0))), ((v2 1), .inl (cA 0, 108, .inl (fun _ => 0))), ((v2 2), .inl (cA 0, 108, .inl (fun _ => 0))), ((v2 3), .inl (cA 0, 36, .inl (fun _ => 0))), (q3, .inl (cA 0, 108, .inl (fun _ => 0))), (q4, .inl (cA 0, 108, .inl (fun _ => 0))), (q5, .inl (cA 0, 108, .inl (fun _ => 0))), (q6, .inl (cA 0, 108, .inl (fun _ => 0))), (q7, .inl (cA 0, 108, .inl (fun _ => 0))), (q8, .inl (cA 0, 73, .inl (fun _ => 0)))] H := hP
  have hD : va_D A [(h0, .inr (2, [.ref q1, .ref (v2 1), .ref (v2 2), .ref q3, .ref q4, .ref q5, .ref q6, .ref q7, .null, .null, .null, .null, .int 0, .int 0, .int 0, .int 0, .int 0])), (q1, .inr (8, [.ref (v2 0), .ref (v2 1), .ref (v2 2), .ref (v2 3), .int 3, .int 3])), ((v2 0), .inl (cA 0, 36, .inl (fun _ => 0))), ((v2 1), .inl (cA 0, 108, .inl (fun _ => 0))), ((v2 2), .inl (cA 0, 108, .inl (fun _ => 0))), ((v2 3), .inl (cA 0, 36, .inl (fun _ => 0))), (q3, .inl (cA 0, 108, .inl (fun _ => 0))), (q4, .inl (cA 0, 108, .inl (fun _ => 0))), (q5, .inl (cA 0, 108, .inl (fun _ => 0))), (q6, .inl (cA 0, 108, .inl (fun _ => 0))), (q7, .inl (cA 0, 108, .inl (fun _ => 0))), (q8, .inl (cA 0, 73, .inl (fun _ => 0)))] := hD
  refine va_putF (D := (dC, dI)) (ci := 2) (v := .ref q8) (ty := (.array .int)) (C := RX2) (T := TX2) (N := 17) hx hb hts (jm_uws (ci := 2) (by decide)) tyX2 tyX2_ok nmX2 hown hK hP hD hS 0 rfl rfl 8 (by decide) (hts _ (jm_in_g 274 jcw_274 rfl)) (fun _ h9 => h9) rfl hin rfl (by decide +kernel) rfl rfl (Nat.le_of_ble_eq_true rfl) dX2_init_82 (fun H locs hP hD hS => ?_)
  have hP : va_P (dC, dI) vwCl [(h0, .inr (2, [.ref q1, .ref (v2 1), .ref (v2 2), .ref q3, .ref q4, .ref q5, .ref q6, .ref q7, .ref q8, .null, .null, .null, .int 0, .int 0, .int 0, .int 0, .int 0])), (q1, .inr (8, [.ref (v2 0), .ref (v2 1), .ref (v2 2), .ref (v2 3), .int 3, .int 3])), ((v2 0), .inl (cA 0, 36, .inl (fun _ => 0))), ((v2 1), .inl (cA 0, 108, .inl (fun _ => 0))), ((v2 2), .inl (cA 0, 108, .inl (fun _ => 0))), ((v2 3), .inl (cA 0, 36, .inl (fun _ => 0))), (q3, .inl (cA 0, 108, .inl (fun _ => 0))), (q4, .inl (cA 0, 108, .inl (fun _ => 0))), (q5, .inl (cA 0, 108, .inl (fun _ => 0))), (q6, .inl (cA 0, 108, .inl (fun _ => 0))), (q7, .inl (cA 0, 108, .inl (fun _ => 0))), (q8, .inl (cA 0, 73, .inl (fun _ => 0)))] H := hP
  have hD : va_D A [(h0, .inr (2, [.ref q1, .ref (v2 1), .ref (v2 2), .ref q3, .ref q4, .ref q5, .ref q6, .ref q7, .ref q8, .null, .null, .null, .int 0, .int 0, .int 0, .int 0, .int 0])), (q1, .inr (8, [.ref (v2 0), .ref (v2 1), .ref (v2 2), .ref (v2 3), .int 3, .int 3])), ((v2 0), .inl (cA 0, 36, .inl (fun _ => 0))), ((v2 1), .inl (cA 0, 108, .inl (fun _ => 0))), ((v2 2), .inl (cA 0, 108, .inl (fun _ => 0))), ((v2 3), .inl (cA 0, 36, .inl (fun _ => 0))), (q3, .inl (cA 0, 108, .inl (fun _ => 0))), (q4, .inl (cA 0, 108, .inl (fun _ => 0))), (q5, .inl (cA 0, 108, .inl (fun _ => 0))), (q6, .inl (cA 0, 108, .inl (fun _ => 0))), (q7, .inl (cA 0, 108, .inl (fun _ => 0))), (q8, .inl (cA 0, 73, .inl (fun _ => 0)))] := hD
  refine lv_aload_n hx hb dX2_init_85 rfl (lv_at hl 0 rfl) ?_
  refine lv_sipush (v := 288) hx hb dX2_init_86 rfl ?_
  refine jc_newa (atype := .int) (ty := .int) (N' := 288) (a0 := (288, .inl (fun _ => 0))) (cX := cA 0) hx hb (hts _ (jm_in_g 179 jcw_179 rfl)) rfl hK hP hD hS hA (fun _ => rfl) (by decide) rfl (Nat.le_of_ble_eq_true rfl) (Nat.le_of_ble_eq_true rfl) (Nat.le_of_ble_eq_true rfl) dX2_init_89 0 rfl (fun _ _ h1 h2 => Option.some.inj (h1.symm.trans h2)) (fun q9 H hP hD hS => ?_)
  have hP : va_P (dC, dI) vwCl [(h0, .inr (2, [.ref q1, .ref (v2 1), .ref (v2 2), .ref q3, .ref q4, .ref q5, .ref q6, .ref q7, .ref q8, .null, .null, .null, .int 0, .int 0, .int 0, .int 0, .int 0])), (q1, .inr (8, [.ref (v2 0), .ref (v2 1), .ref (v2 2), .ref (v2 3), .int 3, .int 3])), ((v2 0), .inl (cA 0, 36, .inl (fun _ => 0))), ((v2 1), .inl (cA 0, 108, .inl (fun _ => 0))), ((v2 2), .inl (cA 0, 108, .inl (fun _ => 0))), ((v2 3), .inl (cA 0, 36, .inl (fun _ => 0))), (q3, .inl (cA 0, 108, .inl (fun _ => 0))), (q4, .inl (cA 0, 108, .inl (fun _ => 0))), (q5, .inl (cA 0, 108, .inl (fun _ => 0))), (q6, .inl (cA 0, 108, .inl (fun _ => 0))), (q7, .inl (cA 0, 108, .inl (fun _ => 0))), (q8, .inl (cA 0, 73, .inl (fun _ => 0))), (q9, .inl (cA 0, 288, .inl (fun _ => 0)))] H := hP
  have hD : va_D A [(h0, .inr (2, [.ref q1, .ref (v2 1), .ref (v2 2), .ref q3, .ref q4, .ref q5, .ref q6, .ref q7, .ref q8, .null, .null, .null, .int 0, .int 0, .int 0, .int 0, .int 0])), (q1, .inr (8, [.ref (v2 0), .ref (v2 1), .ref (v2 2), .ref (v2 3), .int 3, .int 3])), ((v2 0), .inl (cA 0, 36, .inl (fun _ => 0))), ((v2 1), .inl (cA 0, 108, .inl (fun _ => 0))), ((v2 2), .inl (cA 0, 108, .inl (fun _ => 0))), ((v2 3), .inl (cA 0, 36, .inl (fun _ => 0))), (q3, .inl (cA 0, 108, .inl (fun _ => 0))), (q4, .inl (cA 0, 108, .inl (fun _ => 0))), (q5, .inl (cA 0, 108, .inl (fun _ => 0))), (q6, .inl (cA 0, 108, .inl (fun _ => 0))), (q7, .inl (cA 0, 108, .inl (fun _ => 0))), (q8, .inl (cA 0, 73, .inl (fun _ => 0))), (q9, .inl (cA 0, 288, .inl (fun _ => 0)))] := hD
  refine va_putF (D := (dC, dI)) (ci := 2) (v := .ref q9) (ty := (.array .int)) (C := RX2) (T := TX2) (N := 17) hx hb hts (jm_uws (ci := 2) (by decide)) tyX2 tyX2_ok nmX2 hown hK hP hD hS 0 rfl rfl 9 (by decide) (hts _ (jm_in_g 276 jcw_276 rfl)) (fun _ h9 => h9) rfl hin rfl (by decide +kernel) rfl rfl (Nat.le_of_ble_eq_true rfl) dX2_init_91 (fun H locs hP hD hS => ?_)
  have hP : va_P (dC, dI) vwCl [(h0, .inr (2, [.ref q1, .ref (v2 1), .ref (v2 2), .ref q3, .ref q4, .ref q5, .ref q6, .ref q7, .ref q8, .ref q9, .null, .null, .int 0, .int 0, .int 0, .int 0, .int 0])), (q1, .inr (8, [.ref (v2 0), .ref (v2 1), .ref (v2 2), .ref (v2 3), .int 3, .int 3])), ((v2 0), .inl (cA 0, 36, .inl (fun _ => 0))), ((v2 1), .inl (cA 0, 108, .inl (fun _ => 0))), ((v2 2), .inl (cA 0, 108, .inl (fun _ => 0))), ((v2 3), .inl (cA 0, 36, .inl (fun _ => 0))), (q3, .inl (cA 0, 108, .inl (fun _ => 0))), (q4, .inl (cA 0, 108, .inl (fun _ => 0))), (q5, .inl (cA 0, 108, .inl (fun _ => 0))), (q6, .inl (cA 0, 108, .inl (fun _ => 0))), (q7, .inl (cA 0, 108, .inl (fun _ => 0))), (q8, .inl (cA 0, 73, .inl (fun _ => 0))), (q9, .inl (cA 0, 288, .inl (fun _ => 0)))] H := hP
  have hD : va_D A [(h0, .inr (2, [.ref q1, .ref (v2 1), .ref (v2 2), .ref q3, .ref q4, .ref q5, .ref q6, .ref q7, .ref q8, .ref q9, .null, .null, .int 0, .int 0, .int 0, .int 0, .int 0])), (q1, .inr (8, [.ref (v2 0), .ref (v2 1), .ref (v2 2), .ref (v2 3), .int 3, .int 3])), ((v2 0), .inl (cA 0, 36, .inl (fun _ => 0))), ((v2 1), .inl (cA 0, 108, .inl (fun _ => 0))), ((v2 2), .inl (cA 0, 108, .inl (fun _ => 0))), ((v2 3), .inl (cA 0, 36, .inl (fun _ => 0))), (q3, .inl (cA 0, 108, .inl (fun _ => 0))), (q4, .inl (cA 0, 108, .inl (fun _ => 0))), (q5, .inl (cA 0, 108, .inl (fun _ => 0))), (q6, .inl (cA 0, 108, .inl (fun _ => 0))), (q7, .inl (cA 0, 108, .inl (fun _ => 0))), (q8, .inl (cA 0, 73, .inl (fun _ => 0))), (q9, .inl (cA 0, 288, .inl (fun _ => 0)))] := hD
  refine lv_aload_n hx hb dX2_init_94 rfl (lv_at hl 0 rfl) ?_
  refine lv_bipush (v := 20) hx hb dX2_init_95 rfl ?_
  refine jc_newa (atype := .int) (ty := .int) (N' := 20) (a0 := (20, .inl (fun _ => 0))) (cX := cA 0) hx hb (hts _ (jm_in_g 179 jcw_179 rfl)) rfl hK hP hD hS hA (fun _ => rfl) (by decide) rfl (Nat.le_of_ble_eq_true rfl) (Nat.le_of_ble_eq_true rfl) (Nat.le_of_ble_eq_true rfl) dX2_init_97 0 rfl (fun _ _ h1 h2 => Option.some.inj (h1.symm.trans h2)) (fun q10 H hP hD hS => ?_)
  have hP : va_P (dC, dI) vwCl [(h0, .inr (2, [.ref q1, .ref (v2 1), .ref (v2 2), .ref q3, .ref q4, .ref q5, .ref q6, .ref q7, .ref q8, .ref q9, .null, .null, .int 0, .int 0, .int 0, .int 0, .int 0])), (q1, .inr (8, [.ref (v2 0), .ref (v2 1), .ref (v2 2), .ref (v2 3), .int 3, .int 3])), ((v2 0), .inl (cA 0, 36, .inl (fun _ => 0))), ((v2 1), .inl (cA 0, 108, .inl (fun _ => 0))), ((v2 2), .inl (cA 0, 108, .inl (fun _ => 0))), ((v2 3), .inl (cA 0, 36, .inl (fun _ => 0))), (q3, .inl (cA 0, 108, .inl (fun _ => 0))), (q4, .inl (cA 0, 108, .inl (fun _ => 0))), (q5, .inl (cA 0, 108, .inl (fun _ => 0))), (q6, .inl (cA 0, 108, .inl (fun _ => 0))), (q7, .inl (cA 0, 108, .inl (fun _ => 0))), (q8, .inl (cA 0, 73, .inl (fun _ => 0))), (q9, .inl (cA 0, 288, .inl (fun _ => 0))), (q10, .inl (cA 0, 20, .inl (fun _ => 0)))] H := hP
  have hD : va_D A [(h0, .inr (2, [.ref q1, .ref (v2 1), .ref (v2 2), .ref q3, .ref q4, .ref q5, .ref q6, .ref q7, .ref q8, .ref q9, .null, .null, .int 0, .int 0, .int 0, .int 0, .int 0])), (q1, .inr (8, [.ref (v2 0), .ref (v2 1), .ref (v2 2), .ref (v2 3), .int 3, .int 3])), ((v2 0), .inl (cA 0, 36, .inl (fun _ => 0))), ((v2 1), .inl (cA 0, 108, .inl (fun _ => 0))), ((v2 2), .inl (cA 0, 108, .inl (fun _ => 0))), ((v2 3), .inl (cA 0, 36, .inl (fun _ => 0))), (q3, .inl (cA 0, 108, .inl (fun _ => 0))), (q4, .inl (cA 0, 108, .inl (fun _ => 0))), (q5, .inl (cA 0, 108, .inl (fun _ => 0))), (q6, .inl (cA 0, 108, .inl (fun _ => 0))), (q7, .inl (cA 0, 108, .inl (fun _ => 0))), (q8, .inl (cA 0, 73, .inl (fun _ => 0))), (q9, .inl (cA 0, 288, .inl (fun _ => 0))), (q10, .inl (cA 0, 20, .inl (fun _ => 0)))] := hD
  refine va_putF (D := (dC, dI)) (ci := 2) (v := .ref q10) (ty := (.array .int)) (C := RX2) (T := TX2) (N := 17) hx hb hts (jm_uws (ci := 2) (by decide)) tyX2 tyX2_ok nmX2 hown hK hP hD hS 0 rfl rfl 10 (by decide) (hts _ (jm_in_g 278 jcw_278 rfl)) (fun _ h9 => h9) rfl hin rfl (by decide +kernel) rfl rfl (Nat.le_of_ble_eq_true rfl) dX2_init_99 (fun H locs hP hD hS => ?_)
  have hP : va_P (dC, dI) vwCl [(h0, .inr (2, [.ref q1, .ref (v2 1), .ref (v2 2), .ref q3, .ref q4, .ref q5, .ref q6, .ref q7, .ref q8, .ref q9, .ref q10, .null, .int 0, .int 0, .int 0, .int 0, .int 0])), (q1, .inr (8, [.ref (v2 0), .ref (v2 1), .ref (v2 2), .ref (v2 3), .int 3, .int 3])), ((v2 0), .inl (cA 0, 36, .inl (fun _ => 0))), ((v2 1), .inl (cA 0, 108, .inl (fun _ => 0))), ((v2 2), .inl (cA 0, 108, .inl (fun _ => 0))), ((v2 3), .inl (cA 0, 36, .inl (fun _ => 0))), (q3, .inl (cA 0, 108, .inl (fun _ => 0))), (q4, .inl (cA 0, 108, .inl (fun _ => 0))), (q5, .inl (cA 0, 108, .inl (fun _ => 0))), (q6, .inl (cA 0, 108, .inl (fun _ => 0))), (q7, .inl (cA 0, 108, .inl (fun _ => 0))), (q8, .inl (cA 0, 73, .inl (fun _ => 0))), (q9, .inl (cA 0, 288, .inl (fun _ => 0))), (q10, .inl (cA 0, 20, .inl (fun _ => 0)))] H := hP
  have hD : va_D A [(h0, .inr (2, [.ref q1, .ref (v2 1), .ref (v2 2), .ref q3, .ref q4, .ref q5, .ref q6, .ref q7, .ref q8, .ref q9, .ref q10, .null, .int 0, .int 0, .int 0, .int 0, .int 0])), (q1, .inr (8, [.ref (v2 0), .ref (v2 1), .ref (v2 2), .ref (v2 3), .int 3, .int 3])), ((v2 0), .inl (cA 0, 36, .inl (fun _ => 0))), ((v2 1), .inl (cA 0, 108, .inl (fun _ => 0))), ((v2 2), .inl (cA 0, 108, .inl (fun _ => 0))), ((v2 3), .inl (cA 0, 36, .inl (fun _ => 0))), (q3, .inl (cA 0, 108, .inl (fun _ => 0))), (q4, .inl (cA 0, 108, .inl (fun _ => 0))), (q5, .inl (cA 0, 108, .inl (fun _ => 0))), (q6, .inl (cA 0, 108, .inl (fun _ => 0))), (q7, .inl (cA 0, 108, .inl (fun _ => 0))), (q8, .inl (cA 0, 73, .inl (fun _ => 0))), (q9, .inl (cA 0, 288, .inl (fun _ => 0))), (q10, .inl (cA 0, 20, .inl (fun _ => 0)))] := hD
  refine lv_aload_n hx hb dX2_init_102 rfl (lv_at hl 0 rfl) ?_
  refine lv_bipush (v := 20) hx hb dX2_init_103 rfl ?_
  refine jc_newa (atype := .int) (ty := .int) (N' := 20) (a0 := (20, .inl (fun _ => 0))) (cX := cA 0) hx hb (hts _ (jm_in_g 179 jcw_179 rfl)) rfl hK hP hD hS hA (fun _ => rfl) (by decide) rfl (Nat.le_of_ble_eq_true rfl) (Nat.le_of_ble_eq_true rfl) (Nat.le_of_ble_eq_true rfl) dX2_init_105 0 rfl (fun _ _ h1 h2 => Option.some.inj (h1.symm.trans h2)) (fun q11 H hP hD hS => ?_)
  have hP : va_P (dC, dI) vwCl [(h0, .inr (2, [.ref q1, .ref (v2 1), .ref (v2 2), .ref q3, .ref q4, .ref q5, .ref q6, .ref q7, .ref q8, .ref q9, .ref q10, .null, .int 0, .int 0, .int 0, .int 0, .int 0])), (q1, .inr (8, [.ref (v2 0), .ref (v2 1), .ref (v2 2), .ref (v2 3), .int 3, .int 3])), ((v2 0), .inl (cA 0, 36, .inl (fun _ => 0))), ((v2 1), .inl (cA 0, 108, .inl (fun _ => 0))), ((v2 2), .inl (cA 0, 108, .inl (fun _ => 0))), ((v2 3), .inl (cA 0, 36, .inl (fun _ => 0))), (q3, .inl (cA 0, 108, .inl (fun _ => 0))), (q4, .inl (cA 0, 108, .inl (fun _ => 0))), (q5, .inl (cA 0, 108, .inl (fun _ => 0))), (q6, .inl (cA 0, 108, .inl (fun _ => 0))), (q7, .inl (cA 0, 108, .inl (fun _ => 0))), (q8, .inl (cA 0, 73, .inl (fun _ => 0))), (q9, .inl (cA 0, 288, .inl (fun _ => 0))), (q10, .inl (cA 0, 20, .inl (fun _ => 0))), (q11, .inl (cA 0, 20, .inl (fun _ => 0)))] H := hP
  have hD : va_D A [(h0, .inr (2, [.ref q1, .ref (v2 1), .ref (v2 2), .ref q3, .ref q4, .ref q5, .ref q6, .ref q7, .ref q8, .ref q9, .ref q10, .null, .int 0, .int 0, .int 0, .int 0, .int 0])), (q1, .inr (8, [.ref (v2 0), .ref (v2 1), .ref (v2 2), .ref (v2 3), .int 3, .int 3])), ((v2 0), .inl (cA 0, 36, .inl (fun _ => 0))), ((v2 1), .inl (cA 0, 108, .inl (fun _ => 0))), ((v2 2), .inl (cA 0, 108, .inl (fun _ => 0))), ((v2 3), .inl (cA 0, 36, .inl (fun _ => 0))), (q3, .inl (cA 0, 108, .inl (fun _ => 0))), (q4, .inl (cA 0, 108, .inl (fun _ => 0))), (q5, .inl (cA 0, 108, .inl (fun _ => 0))), (q6, .inl (cA 0, 108, .inl (fun _ => 0))), (q7, .inl (cA 0, 108, .inl (fun _ => 0))), (q8, .inl (cA 0, 73, .inl (fun _ => 0))), (q9, .inl (cA 0, 288, .inl (fun _ => 0))), (q10, .inl (cA 0, 20, .inl (fun _ => 0))), (q11, .inl (cA 0, 20, .inl (fun _ => 0)))] := hD
  refine va_putF (D := (dC, dI)) (ci := 2) (v := .ref q11) (ty := (.array .int)) (C := RX2) (T := TX2) (N := 17) hx hb hts (jm_uws (ci := 2) (by decide)) tyX2 tyX2_ok nmX2 hown hK hP hD hS 0 rfl rfl 11 (by decide) (hts _ (jm_in_g 280 jcw_280 rfl)) (fun _ h9 => h9) rfl hin rfl (by decide +kernel) rfl rfl (Nat.le_of_ble_eq_true rfl) dX2_init_107 (fun H locs hP hD hS => ?_)
  have hP : va_P (dC, dI) vwCl [(h0, .inr (2, [.ref q1, .ref (v2 1), .ref (v2 2), .ref q3, .ref q4, .ref q5, .ref q6, .ref q7, .ref q8, .ref q9, .ref q10, .ref q11, .int 0, .int 0, .int 0, .int 0, .int 0])), (q1, .inr (8, [.ref (v2 0), .ref (v2 1), .ref (v2 2), .ref (v2 3), .int 3, .int 3])), ((v2 0), .inl (cA 0, 36, .inl (fun _ => 0))), ((v2 1), .inl (cA 0, 108, .inl (fun _ => 0))), ((v2 2), .inl (cA 0, 108, .inl (fun _ => 0))), ((v2 3), .inl (cA 0, 36, .inl (fun _ => 0))), (q3, .inl (cA 0, 108, .inl (fun _ => 0))), (q4, .inl (cA 0, 108, .inl (fun _ => 0))), (q5, .inl (cA 0, 108, .inl (fun _ => 0))), (q6, .inl (cA 0, 108, .inl (fun _ => 0))), (q7, .inl (cA 0, 108, .inl (fun _ => 0))), (q8, .inl (cA 0, 73, .inl (fun _ => 0))), (q9, .inl (cA 0, 288, .inl (fun _ => 0))), (q10, .inl (cA 0, 20, .inl (fun _ => 0))), (q11, .inl (cA 0, 20, .inl (fun _ => 0)))] H := hP
  have hD : va_D A [(h0, .inr (2, [.ref q1, .ref (v2 1), .ref (v2 2), .ref q3, .ref q4, .ref q5, .ref q6, .ref q7, .ref q8, .ref q9, .ref q10, .ref q11, .int 0, .int 0, .int 0, .int 0, .int 0])), (q1, .inr (8, [.ref (v2 0), .ref (v2 1), .ref (v2 2), .ref (v2 3), .int 3, .int 3])), ((v2 0), .inl (cA 0, 36, .inl (fun _ => 0))), ((v2 1), .inl (cA 0, 108, .inl (fun _ => 0))), ((v2 2), .inl (cA 0, 108, .inl (fun _ => 0))), ((v2 3), .inl (cA 0, 36, .inl (fun _ => 0))), (q3, .inl (cA 0, 108, .inl (fun _ => 0))), (q4, .inl (cA 0, 108, .inl (fun _ => 0))), (q5, .inl (cA 0, 108, .inl (fun _ => 0))), (q6, .inl (cA 0, 108, .inl (fun _ => 0))), (q7, .inl (cA 0, 108, .inl (fun _ => 0))), (q8, .inl (cA 0, 73, .inl (fun _ => 0))), (q9, .inl (cA 0, 288, .inl (fun _ => 0))), (q10, .inl (cA 0, 20, .inl (fun _ => 0))), (q11, .inl (cA 0, 20, .inl (fun _ => 0)))] := hD
  refine lv_aload_n hx hb dX2_init_110 rfl (lv_at hl 0 rfl) ?_
  generalize hAD : jc_ad [h0, q1, (v2 0), (v2 1), (v2 2), (v2 3), q3, q4, q5, q6, q7, q8, q9, q10, q11] 1 adS = AD
  have hP : va_P (dC, dI) vwCl (jm_wd cA AD [1, 2, 3, 4, 5, 6, 7, 8, 9, 10, 11, 12, 13, 14, 15] jc_M0) H := by rw [← hAD]; exact hP
  have hD : va_D A (jm_wd cA AD [1, 2, 3, 4, 5, 6, 7, 8, 9, 10, 11, 12, 13, 14, 15] jc_M0) := by rw [← hAD]; exact hD
  have hwok : jm_wok AD [1, 2, 3, 4, 5, 6, 7, 8, 9, 10, 11, 12, 13, 14, 15] A := jc_wok (cA := cA) (M := jc_M0) hD (by decide) (by decide) (by decide +kernel)
  have hS2 : ∀ i, AD (200 + i) = adS (200 + i) := fun i => by rw [← hAD]; exact jc_ad_o (by simp only [List.length_cons, List.length_nil]; omega)
  have hctx2 := jm_ctx_ad hS2 hctx
  have h1 : AD 1 = h0 := by rw [← hAD]; rfl
  obtain ⟨n, M1, hwp, h999, hF1⟩ := jc_rebuild
  refine W.eq (g2 := F0 m 111 ls (((.inr (.inl 1) :: [] : List jm_V).map (jm_val AD)).reverse ++ [])) (by show F0 m 111 ls [.ref h0] = F0 m 111 ls [.ref (AD 1)]; rw [h1]) ?_
  refine jc_vcall (mi := 11) (c0 := 1) (as' := []) (M := jc_M0) (M1 := M1) (nL := 1) hx hb hml hown hts (js_sound l hl9 dC dI cA AD adV [1, 2, 3, 4, 5, 6, 7, 8, 9, 10, 11, 12, 13, 14, 15] n) (by decide) rfl (jm_in_g 180 jcw_180 rfl) rfl (by decide) rfl (fun v hv => by rcases List.mem_singleton.mp hv with rfl; exact Or.inl (by decide)) (by decide +kernel) hwp jc_M0_ok h999 hP hwok hctx2 hS hA (Nat.le_of_ble_eq_true rfl) (Nat.le_of_ble_eq_true rfl) (Nat.le_of_ble_eq_true rfl) hl.1 ⟨Nat.le_of_ble_eq_true rfl, Nat.le_of_ble_eq_true rfl⟩ dX2_init_111 (fun H locs hP hok hS => ?_)
  refine W.widen (k := 14) (n := 1235) (Nat.le_of_ble_eq_true rfl) (Nat.le_of_ble_eq_true rfl) ?_
  exact W.vret hx hb hr (fun t ht hW => ⟨⟨(AD, M1), rfl, trivial, by rw [ht]; exact hP, jm_wd_D M1 hwok, h1, hS2, hok, hF1⟩, hS.F ht⟩) hS.2.2 dX2_init_114
