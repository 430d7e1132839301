/-! the law's loop -/
theorem jm_cl_98 {m : Nat} {as : List jm_V} {M : jm_Mem} {Q : jm_Q} (h : jm_cl m as M Q) : jm_cl m as M (fun r M' => Q r M' ∧ M' 998 = M 998) := by
  obtain ⟨n, hn⟩ := h
  obtain ⟨r, M', hQ, hall⟩ := jm_wp_det n _ _ _ hn
  have h2 := hall n (Nat.le_refl _) (fun r1 M1 => r1 = r ∧ M1 = M') ⟨rfl, rfl⟩
  obtain ⟨r1, M1, ⟨e1, e2⟩, hle⟩ := jm_wp_le n _ _ _ h2
  rw [e2] at hle
  exact ⟨n, hall n (Nat.le_refl _) _ ⟨hQ, hle.2.2⟩⟩
theorem z_go {cl rf : Nat} {as : List jm_V} {M : jm_Mem} {Q : jm_Q} (h : z_stp cl as rf M) (hQ : ∀ (x : Int) (M1 : jm_Mem), M1 998 = M 998 → jm_cl rf (jm_R 67 :: as) M1 (fun r2 M2 => (r2 = some (jm_I x) ∧ z_Sm M2 ∧ y_gh 760 M M2) ∧ M2 998 = M1 998) → Q (some (jm_I x)) M1) : jm_cl cl (jm_R 0 :: as) M Q := by
  refine jm_cl_mono (jm_cl_98 h) ?_
  intro r M1 h1
  obtain ⟨⟨x, hx, h2⟩, e⟩ := h1
  rw [hx]
  exact hQ x M1 e (jm_cl_98 h2)
theorem z_gt {cl rf : Nat} {as : List jm_V} {M : jm_Mem} {Q : jm_Q} (h : z_thr cl as rf M) (hn : ∀ (M1 : jm_Mem), M1 998 = M 998 → M1 999 = M 999 → (∀ M2, jm_fr [94, 999] M1 M2 → jm_cl rf (jm_R 67 :: as) M2 (fun r2 M3 => (∃ y : Int, r2 = some (jm_I y) ∧ M3 67 0 = 1 ∧ z_Sm M3 ∧ M3 999 = M2 999) ∧ M3 998 = M2 998)) → Q jm_thr M1) (hs : ∀ (x : Int) (M1 : jm_Mem), M1 998 = M 998 → M1 999 = M 999 → (∀ M2, jm_fr [94, 999] M1 M2 → jm_cl rf (jm_R 67 :: as) M2 (fun r2 M3 => (r2 = some (jm_I x) ∧ M3 67 0 = 0 ∧ z_Sm M3 ∧ M3 999 = M2 999 ∧ M3 94 = M2 94) ∧ M3 998 = M2 998)) → Q (some (jm_I x)) M1) : jm_cl cl (jm_R 0 :: as) M Q := by
  refine jm_cl_mono (jm_cl_98 h) ?_
  intro r M1 h1
  obtain ⟨⟨o, ho, e9, h2⟩, e⟩ := h1
  rw [ho]
  cases o with
  | none =>
    refine hn M1 e e9 (fun M2 f2 => jm_cl_mono (jm_cl_98 (h2 M2 f2)) ?_)
    intro r3 M3 h3
    obtain ⟨⟨y, hy, hd, hS3, a9, a94⟩, e3⟩ := h3
    rcases hd with ⟨_, hd⟩ | ⟨hd, _⟩
    · exact ⟨⟨y, hy, hd, hS3, a9⟩, e3⟩
    · cases hd
  | some x =>
    refine hs x M1 e e9 (fun M2 f2 => jm_cl_mono (jm_cl_98 (h2 M2 f2)) ?_)
    intro r3 M3 h3
    obtain ⟨⟨y, hy, hd, hS3, a9, a94⟩, e3⟩ := h3
    rcases hd with ⟨hd, _⟩ | ⟨hd, h0⟩
    · cases hd
    · have hd := Option.some.inj hd
      rw [← hd] at hy
      exact ⟨⟨hy, h0, hS3, a9, a94⟩, e3⟩
theorem y_gh_thr {M M1 M3 : jm_Mem} (a : M1 999 = M 999) (b : M3 999 = jm_gh M1 1 6 999) : y_gh 760 M M3 := by
  have h := jm_gh_0 M1 1 6
  unfold y_gh
  rw [b, h.1, h.2.1, a]
  omega
abbrev z_ls (i : Int) (o5 o6 : Option jm_V) : jm_Ls := [some (jm_R 998), some (jm_R 0), some (jm_R 67), some (jm_R 94), some (jm_I i), o5, o6]
section ZL
variable {w h : Int} {sl fo ba su : Int → Int} {M : jm_Mem} {i : Int} {o5 o6 : Option jm_V} {Q : jm_Q}
theorem z_k0 (hS : z_S w h sl fo ba su M) (i0 : 0 ≤ i) (i1 : i + 6 ≤ M 998 (-1)) (i2 : M 998 (-1) ≤ 3072) (K : ∀ M2 p5 p6, z_Sm M2 → y_gh 760 M M2 → M2 998 = M 998 → jm_run 216 (873, z_ls i p5 p6, [], M2) Q) : jm_run 216 (25, z_ls i o5 o6, [], M) Q := by
  refine sg_216_25 ⟨⟨by omega, by omega⟩, by omega, by omega, ⟨by omega, by omega⟩, by omega, by omega, ⟨by omega, by omega⟩, by omega, by omega, ⟨by omega, by omega⟩, by omega, by omega, ⟨by omega, by omega⟩, by omega, by omega, z_go (z_feed hS _ _ _ _ _) ?_⟩
  intro x M1 e1 h2
  refine ⟨x, rfl, ?_⟩
  rw [e1]
  refine ⟨⟨by omega, by omega⟩, by omega, by omega, ⟨by omega, by omega⟩, by omega, by omega, ⟨by omega, by omega⟩, by omega, by omega, ⟨by omega, by omega⟩, by omega, by omega, ⟨by omega, by omega⟩, by omega, by omega, jm_cl_mono h2 ?_⟩
  intro r M2 h3
  obtain ⟨⟨hr, hS2, hg⟩, e2⟩ := h3
  exact ⟨x, hr, fun _ => K M2 _ _ hS2 hg (e2.trans e1), fun z => absurd rfl z⟩
theorem z_k1 (hS : z_S w h sl fo ba su M) (i0 : 0 ≤ i) (i1 : i + 6 ≤ M 998 (-1)) (i2 : M 998 (-1) ≤ 3072) (K : ∀ M2 p5 p6, z_Sm M2 → y_gh 760 M M2 → M2 998 = M 998 → jm_run 216 (873, z_ls i p5 p6, [], M2) Q) : jm_run 216 (82, z_ls i o5 o6, [], M) Q := by
  refine sg_216_82 ⟨⟨by omega, by omega⟩, by omega, by omega, z_go (z_text hS _) ?_⟩
  intro x M1 e1 h2
  refine ⟨x, rfl, ?_⟩
  rw [e1]
  refine ⟨⟨by omega, by omega⟩, by omega, by omega, jm_cl_mono h2 ?_⟩
  intro r M2 h3
  obtain ⟨⟨hr, hS2, hg⟩, e2⟩ := h3
  exact ⟨x, hr, fun _ => K M2 _ _ hS2 hg (e2.trans e1), fun z => absurd rfl z⟩
theorem z_k2 (hS : z_S w h sl fo ba su M) (i0 : 0 ≤ i) (i1 : i + 6 ≤ M 998 (-1)) (i2 : M 998 (-1) ≤ 3072) (K : ∀ M2 p5 p6, z_Sm M2 → y_gh 760 M M2 → M2 998 = M 998 → jm_run 216 (873, z_ls i p5 p6, [], M2) Q) : jm_run 216 (99, z_ls i o5 o6, [], M) Q := by
  refine sg_216_99 ⟨⟨by omega, by omega⟩, by omega, by omega, ⟨by omega, by omega⟩, by omega, by omega, z_go (z_grid hS _ _) ?_⟩
  intro x M1 e1 h2
  refine ⟨x, rfl, ?_⟩
  rw [e1]
  refine ⟨⟨by omega, by omega⟩, by omega, by omega, ⟨by omega, by omega⟩, by omega, by omega, jm_cl_mono h2 ?_⟩
  intro r M2 h3
  obtain ⟨⟨hr, hS2, hg⟩, e2⟩ := h3
  exact ⟨x, hr, fun _ => K M2 _ _ hS2 hg (e2.trans e1), fun z => absurd rfl z⟩
theorem z_k3 (hS : z_S w h sl fo ba su M) (i0 : 0 ≤ i) (i1 : i + 6 ≤ M 998 (-1)) (i2 : M 998 (-1) ≤ 3072) (K : ∀ M2 p5 p6, z_Sm M2 → y_gh 760 M M2 → M2 998 = M 998 → jm_run 216 (873, z_ls i p5 p6, [], M2) Q) : jm_run 216 (126, z_ls i o5 o6, [], M) Q := by
  refine sg_216_126 ⟨⟨by omega, by omega⟩, by omega, by omega, ⟨by omega, by omega⟩, by omega, by omega, z_go (z_slant hS _ _) ?_⟩
  intro x M1 e1 h2
  refine ⟨x, rfl, ?_⟩
  rw [e1]
  refine ⟨⟨by omega, by omega⟩, by omega, by omega, ⟨by omega, by omega⟩, by omega, by omega, jm_cl_mono h2 ?_⟩
  intro r M2 h3
  obtain ⟨⟨hr, hS2, hg⟩, e2⟩ := h3
  exact ⟨x, hr, fun _ => K M2 _ _ hS2 hg (e2.trans e1), fun z => absurd rfl z⟩
theorem z_k4 (hS : z_S w h sl fo ba su M) (i0 : 0 ≤ i) (i1 : i + 6 ≤ M 998 (-1)) (i2 : M 998 (-1) ≤ 3072) (K : ∀ M2 p5 p6, z_Sm M2 → y_gh 760 M M2 → M2 998 = M 998 → jm_run 216 (873, z_ls i p5 p6, [], M2) Q) : jm_run 216 (153, z_ls i o5 o6, [], M) Q := by
  refine sg_216_153 ⟨⟨by omega, by omega⟩, by omega, by omega, ⟨by omega, by omega⟩, by omega, by omega, ⟨by omega, by omega⟩, by omega, by omega, z_go (z_bears hS _ _ _) ?_⟩
  intro x M1 e1 h2
  refine ⟨x, rfl, ?_⟩
  rw [e1]
  refine ⟨⟨by omega, by omega⟩, by omega, by omega, ⟨by omega, by omega⟩, by omega, by omega, ⟨by omega, by omega⟩, by omega, by omega, jm_cl_mono h2 ?_⟩
  intro r M2 h3
  obtain ⟨⟨hr, hS2, hg⟩, e2⟩ := h3
  exact ⟨x, hr, fun _ => K M2 _ _ hS2 hg (e2.trans e1), fun z => absurd rfl z⟩
theorem z_k5 (hS : z_S w h sl fo ba su M) (i0 : 0 ≤ i) (i1 : i + 6 ≤ M 998 (-1)) (i2 : M 998 (-1) ≤ 3072) (K : ∀ M2 p5 p6, z_Sm M2 → y_gh 760 M M2 → M2 998 = M 998 → jm_run 216 (873, z_ls i p5 p6, [], M2) Q) : jm_run 216 (190, z_ls i o5 o6, [], M) Q := by
  refine sg_216_190 ⟨⟨by omega, by omega⟩, by omega, by omega, ⟨by omega, by omega⟩, by omega, by omega, z_go (z_edge hS _ _) ?_⟩
  intro x M1 e1 h2
  refine ⟨x, rfl, ?_⟩
  rw [e1]
  refine ⟨⟨by omega, by omega⟩, by omega, by omega, ⟨by omega, by omega⟩, by omega, by omega, jm_cl_mono h2 ?_⟩
  intro r M2 h3
  obtain ⟨⟨hr, hS2, hg⟩, e2⟩ := h3
  exact ⟨x, hr, fun _ => K M2 _ _ hS2 hg (e2.trans e1), fun z => absurd rfl z⟩
theorem z_k6 (hS : z_S w h sl fo ba su M) (i0 : 0 ≤ i) (i1 : i + 6 ≤ M 998 (-1)) (i2 : M 998 (-1) ≤ 3072) (K : ∀ M2 p5 p6, z_Sm M2 → y_gh 760 M M2 → M2 998 = M 998 → jm_run 216 (873, z_ls i p5 p6, [], M2) Q) : jm_run 216 (217, z_ls i o5 o6, [], M) Q := by
  refine sg_216_217 ⟨⟨by omega, by omega⟩, by omega, by omega, z_gt (z_around hS _) ?_ ?_⟩
  · intro M1 e1 e9 h2
    have e98 : jm_gh M1 1 6 998 = M 998 := by rw [(jm_gh_0 M1 1 6).2.2 998 (by decide)]; exact e1
    refine Or.inl ⟨rfl, ?_⟩
    rw [e98]
    refine ⟨⟨by omega, by omega⟩, by omega, by omega, jm_cl_mono (h2 _ (fun c hc => (jm_gh_0 M1 1 6).2.2 c (fun q => hc (by rw [q]; decide)))) ?_⟩
    intro r M3 h3
    obtain ⟨⟨y, hr, h0, hS3, a9⟩, e3⟩ := h3
    refine ⟨y, hr, sc_118 ⟨_, rfl, fun _ => ⟨fun z => absurd z (by decide), fun _ => K M3 _ _ hS3 (y_gh_thr e9 a9) (e3.trans e98)⟩, fun z => absurd h0 z⟩⟩
  · intro x M1 e1 e9 h2
    have e98 : jm_st M1 94 0 x 998 = M 998 := e1
    refine Or.inr ⟨x, rfl, ?_⟩
    rw [e98]
    refine ⟨⟨by omega, by omega⟩, by omega, by omega, jm_cl_mono (h2 _ (fun c hc => if_neg (fun q => hc (by rw [q]; decide)))) ?_⟩
    intro r M3 h3
    obtain ⟨⟨hr, h0, hS3, a9, a94⟩, e3⟩ := h3
    have c94 : M3 94 0 = x := by rw [a94]; rfl
    refine ⟨x, hr, sc_118 ⟨_, rfl, fun _ => ⟨fun _ => ⟨by omega, by omega, fun _ => K M3 _ _ hS3 (z_gh (a9.trans e9)) (e3.trans e98), fun z => absurd ?_ z⟩, fun z => absurd rfl z⟩, fun z => absurd h0 z⟩⟩
    rw [c94]
    unfold jm_cmp
    rw [if_neg (by omega), if_pos rfl]
theorem z_k7 (hS : z_S w h sl fo ba su M) (i0 : 0 ≤ i) (i1 : i + 6 ≤ M 998 (-1)) (i2 : M 998 (-1) ≤ 3072) (K : ∀ M2 p5 p6, z_Sm M2 → y_gh 760 M M2 → M2 998 = M 998 → jm_run 216 (873, z_ls i p5 p6, [], M2) Q) : jm_run 216 (252, z_ls i o5 o6, [], M) Q := by
  refine sg_216_252 ⟨⟨by omega, by omega⟩, by omega, by omega, ⟨by omega, by omega⟩, by omega, by omega, z_gt (z_distance hS _ _) ?_ ?_⟩
  · intro M1 e1 e9 h2
    have e98 : jm_gh M1 1 6 998 = M 998 := by rw [(jm_gh_0 M1 1 6).2.2 998 (by decide)]; exact e1
    refine Or.inl ⟨rfl, ?_⟩
    rw [e98]
    refine ⟨⟨by omega, by omega⟩, by omega, by omega, ⟨by omega, by omega⟩, by omega, by omega, jm_cl_mono (h2 _ (fun c hc => (jm_gh_0 M1 1 6).2.2 c (fun q => hc (by rw [q]; decide)))) ?_⟩
    intro r M3 h3
    obtain ⟨⟨y, hr, h0, hS3, a9⟩, e3⟩ := h3
    refine ⟨y, hr, sc_118 ⟨_, rfl, fun _ => ⟨fun z => absurd z (by decide), fun _ => K M3 _ _ hS3 (y_gh_thr e9 a9) (e3.trans e98)⟩, fun z => absurd h0 z⟩⟩
  · intro x M1 e1 e9 h2
    have e98 : jm_st M1 94 0 x 998 = M 998 := e1
    refine Or.inr ⟨x, rfl, ?_⟩
    rw [e98]
    refine ⟨⟨by omega, by omega⟩, by omega, by omega, ⟨by omega, by omega⟩, by omega, by omega, jm_cl_mono (h2 _ (fun c hc => if_neg (fun q => hc (by rw [q]; decide)))) ?_⟩
    intro r M3 h3
    obtain ⟨⟨hr, h0, hS3, a9, a94⟩, e3⟩ := h3
    have c94 : M3 94 0 = x := by rw [a94]; rfl
    refine ⟨x, hr, sc_118 ⟨_, rfl, fun _ => ⟨fun _ => ⟨by omega, by omega, fun _ => K M3 _ _ hS3 (z_gh (a9.trans e9)) (e3.trans e98), fun z => absurd ?_ z⟩, fun z => absurd rfl z⟩, fun z => absurd h0 z⟩⟩
    rw [c94]
    unfold jm_cmp
    rw [if_neg (by omega), if_pos rfl]
theorem z_k8 (hS : z_S w h sl fo ba su M) (i0 : 0 ≤ i) (i1 : i + 6 ≤ M 998 (-1)) (i2 : M 998 (-1) ≤ 3072) (K : ∀ M2 p5 p6, z_Sm M2 → y_gh 760 M M2 → M2 998 = M 998 → jm_run 216 (873, z_ls i p5 p6, [], M2) Q) : jm_run 216 (297, z_ls i o5 o6, [], M) Q := by
  refine sg_216_297 ⟨⟨by omega, by omega⟩, by omega, by omega, ⟨by omega, by omega⟩, by omega, by omega, ⟨by omega, by omega⟩, by omega, by omega, z_go (z_route hS _ _ _) ?_⟩
  intro x M1 e1 h2
  refine ⟨x, rfl, ?_⟩
  rw [e1]
  refine ⟨⟨by omega, by omega⟩, by omega, by omega, ⟨by omega, by omega⟩, by omega, by omega, ⟨by omega, by omega⟩, by omega, by omega, jm_cl_mono h2 ?_⟩
  intro r M2 h3
  obtain ⟨⟨hr, hS2, hg⟩, e2⟩ := h3
  exact ⟨x, hr, fun _ => K M2 _ _ hS2 hg (e2.trans e1), fun z => absurd rfl z⟩
theorem z_k9 (hS : z_S w h sl fo ba su M) (i0 : 0 ≤ i) (i1 : i + 6 ≤ M 998 (-1)) (i2 : M 998 (-1) ≤ 3072) (K : ∀ M2 p5 p6, z_Sm M2 → y_gh 760 M M2 → M2 998 = M 998 → jm_run 216 (873, z_ls i p5 p6, [], M2) Q) : jm_run 216 (334, z_ls i o5 o6, [], M) Q := by
  refine sg_216_334 (z_go (z_circulates hS) ?_)
  intro x M1 e1 h2
  refine ⟨x, rfl, ?_⟩
  refine jm_cl_mono h2 ?_
  intro r M2 h3
  obtain ⟨⟨hr, hS2, hg⟩, e2⟩ := h3
  exact ⟨x, hr, fun _ => K M2 _ _ hS2 hg (e2.trans e1), fun z => absurd rfl z⟩
theorem z_k10 (hS : z_S w h sl fo ba su M) (i0 : 0 ≤ i) (i1 : i + 6 ≤ M 998 (-1)) (i2 : M 998 (-1) ≤ 3072) (K : ∀ M2 p5 p6, z_Sm M2 → y_gh 760 M M2 → M2 998 = M 998 → jm_run 216 (873, z_ls i p5 p6, [], M2) Q) : jm_run 216 (341, z_ls i o5 o6, [], M) Q := by
  refine sg_216_341 ⟨⟨by omega, by omega⟩, by omega, by omega, z_gt (z_potential hS _) ?_ ?_⟩
  · intro M1 e1 e9 h2
    have e98 : jm_gh M1 1 6 998 = M 998 := by rw [(jm_gh_0 M1 1 6).2.2 998 (by decide)]; exact e1
    refine Or.inl ⟨rfl, ?_⟩
    rw [e98]
    refine ⟨⟨by omega, by omega⟩, by omega, by omega, jm_cl_mono (h2 _ (fun c hc => (jm_gh_0 M1 1 6).2.2 c (fun q => hc (by rw [q]; decide)))) ?_⟩
    intro r M3 h3
    obtain ⟨⟨y, hr, h0, hS3, a9⟩, e3⟩ := h3
    refine ⟨y, hr, sc_118 ⟨_, rfl, fun _ => ⟨fun z => absurd z (by decide), fun _ => K M3 _ _ hS3 (y_gh_thr e9 a9) (e3.trans e98)⟩, fun z => absurd h0 z⟩⟩
  · intro x M1 e1 e9 h2
    have e98 : jm_st M1 94 0 x 998 = M 998 := e1
    refine Or.inr ⟨x, rfl, ?_⟩
    rw [e98]
    refine ⟨⟨by omega, by omega⟩, by omega, by omega, jm_cl_mono (h2 _ (fun c hc => if_neg (fun q => hc (by rw [q]; decide)))) ?_⟩
    intro r M3 h3
    obtain ⟨⟨hr, h0, hS3, a9, a94⟩, e3⟩ := h3
    have c94 : M3 94 0 = x := by rw [a94]; rfl
    refine ⟨x, hr, sc_118 ⟨_, rfl, fun _ => ⟨fun _ => ⟨by omega, by omega, fun _ => K M3 _ _ hS3 (z_gh (a9.trans e9)) (e3.trans e98), fun z => absurd ?_ z⟩, fun z => absurd rfl z⟩, fun z => absurd h0 z⟩⟩
    rw [c94]
    unfold jm_cmp
    rw [if_neg (by omega), if_pos rfl]
theorem z_k11 (hS : z_S w h sl fo ba su M) (i0 : 0 ≤ i) (i1 : i + 6 ≤ M 998 (-1)) (i2 : M 998 (-1) ≤ 3072) (K : ∀ M2 p5 p6, z_Sm M2 → y_gh 760 M M2 → M2 998 = M 998 → jm_run 216 (873, z_ls i p5 p6, [], M2) Q) : jm_run 216 (376, z_ls i o5 o6, [], M) Q := by
  refine sg_216_376 ⟨⟨by omega, by omega⟩, by omega, by omega, z_go (z_ring hS _) ?_⟩
  intro x M1 e1 h2
  refine ⟨x, rfl, ?_⟩
  rw [e1]
  refine ⟨⟨by omega, by omega⟩, by omega, by omega, jm_cl_mono h2 ?_⟩
  intro r M2 h3
  obtain ⟨⟨hr, hS2, hg⟩, e2⟩ := h3
  exact ⟨x, hr, fun _ => K M2 _ _ hS2 hg (e2.trans e1), fun z => absurd rfl z⟩
theorem z_k12 (hS : z_S w h sl fo ba su M) (i0 : 0 ≤ i) (i1 : i + 6 ≤ M 998 (-1)) (i2 : M 998 (-1) ≤ 3072) (K : ∀ M2 p5 p6, z_Sm M2 → y_gh 760 M M2 → M2 998 = M 998 → jm_run 216 (873, z_ls i p5 p6, [], M2) Q) : jm_run 216 (393, z_ls i o5 o6, [], M) Q := by
  refine sg_216_393 ⟨⟨by omega, by omega⟩, by omega, by omega, ⟨by omega, by omega⟩, by omega, by omega, z_go (z_flow hS _ _) ?_⟩
  intro x M1 e1 h2
  refine ⟨x, rfl, ?_⟩
  rw [e1]
  refine ⟨⟨by omega, by omega⟩, by omega, by omega, ⟨by omega, by omega⟩, by omega, by omega, jm_cl_mono h2 ?_⟩
  intro r M2 h3
  obtain ⟨⟨hr, hS2, hg⟩, e2⟩ := h3
  exact ⟨x, hr, fun _ => K M2 _ _ hS2 hg (e2.trans e1), fun z => absurd rfl z⟩
theorem z_k13 (hS : z_S w h sl fo ba su M) (i0 : 0 ≤ i) (i1 : i + 6 ≤ M 998 (-1)) (i2 : M 998 (-1) ≤ 3072) (K : ∀ M2 p5 p6, z_Sm M2 → y_gh 760 M M2 → M2 998 = M 998 → jm_run 216 (873, z_ls i p5 p6, [], M2) Q) : jm_run 216 (420, z_ls i o5 o6, [], M) Q := by
  refine sg_216_420 ⟨⟨by omega, by omega⟩, by omega, by omega, z_gt (z_on hS _) ?_ ?_⟩
  · intro M1 e1 e9 h2
    have e98 : jm_gh M1 1 6 998 = M 998 := by rw [(jm_gh_0 M1 1 6).2.2 998 (by decide)]; exact e1
    refine Or.inl ⟨rfl, ?_⟩
    rw [e98]
    refine ⟨⟨by omega, by omega⟩, by omega, by omega, jm_cl_mono (h2 _ (fun c hc => (jm_gh_0 M1 1 6).2.2 c (fun q => hc (by rw [q]; decide)))) ?_⟩
    intro r M3 h3
    obtain ⟨⟨y, hr, h0, hS3, a9⟩, e3⟩ := h3
    refine ⟨y, hr, sc_118 ⟨_, rfl, fun _ => ⟨fun z => absurd z (by decide), fun _ => K M3 _ _ hS3 (y_gh_thr e9 a9) (e3.trans e98)⟩, fun z => absurd h0 z⟩⟩
  · intro x M1 e1 e9 h2
    have e98 : jm_st M1 94 0 x 998 = M 998 := e1
    refine Or.inr ⟨x, rfl, ?_⟩
    rw [e98]
    refine ⟨⟨by omega, by omega⟩, by omega, by omega, jm_cl_mono (h2 _ (fun c hc => if_neg (fun q => hc (by rw [q]; decide)))) ?_⟩
    intro r M3 h3
    obtain ⟨⟨hr, h0, hS3, a9, a94⟩, e3⟩ := h3
    have c94 : M3 94 0 = x := by rw [a94]; rfl
    refine ⟨x, hr, sc_118 ⟨_, rfl, fun _ => ⟨fun _ => ⟨by omega, by omega, fun _ => K M3 _ _ hS3 (z_gh (a9.trans e9)) (e3.trans e98), fun z => absurd ?_ z⟩, fun z => absurd rfl z⟩, fun z => absurd h0 z⟩⟩
    rw [c94]
    unfold jm_cmp
    rw [if_neg (by omega), if_pos rfl]
theorem z_k14 (hS : z_S w h sl fo ba su M) (i0 : 0 ≤ i) (i1 : i + 6 ≤ M 998 (-1)) (i2 : M 998 (-1) ≤ 3072) (K : ∀ M2 p5 p6, z_Sm M2 → y_gh 760 M M2 → M2 998 = M 998 → jm_run 216 (873, z_ls i p5 p6, [], M2) Q) : jm_run 216 (455, z_ls i o5 o6, [], M) Q := by
  refine sg_216_455 ⟨⟨by omega, by omega⟩, by omega, by omega, ⟨by omega, by omega⟩, by omega, by omega, z_gt (z_left hS _ _) ?_ ?_⟩
  · intro M1 e1 e9 h2
    have e98 : jm_gh M1 1 6 998 = M 998 := by rw [(jm_gh_0 M1 1 6).2.2 998 (by decide)]; exact e1
    refine Or.inl ⟨rfl, ?_⟩
    rw [e98]
    refine ⟨⟨by omega, by omega⟩, by omega, by omega, ⟨by omega, by omega⟩, by omega, by omega, jm_cl_mono (h2 _ (fun c hc => (jm_gh_0 M1 1 6).2.2 c (fun q => hc (by rw [q]; decide)))) ?_⟩
    intro r M3 h3
    obtain ⟨⟨y, hr, h0, hS3, a9⟩, e3⟩ := h3
    refine ⟨y, hr, sc_118 ⟨_, rfl, fun _ => ⟨fun z => absurd z (by decide), fun _ => K M3 _ _ hS3 (y_gh_thr e9 a9) (e3.trans e98)⟩, fun z => absurd h0 z⟩⟩
  · intro x M1 e1 e9 h2
    have e98 : jm_st M1 94 0 x 998 = M 998 := e1
    refine Or.inr ⟨x, rfl, ?_⟩
    rw [e98]
    refine ⟨⟨by omega, by omega⟩, by omega, by omega, ⟨by omega, by omega⟩, by omega, by omega, jm_cl_mono (h2 _ (fun c hc => if_neg (fun q => hc (by rw [q]; decide)))) ?_⟩
    intro r M3 h3
    obtain ⟨⟨hr, h0, hS3, a9, a94⟩, e3⟩ := h3
    have c94 : M3 94 0 = x := by rw [a94]; rfl
    refine ⟨x, hr, sc_118 ⟨_, rfl, fun _ => ⟨fun _ => ⟨by omega, by omega, fun _ => K M3 _ _ hS3 (z_gh (a9.trans e9)) (e3.trans e98), fun z => absurd ?_ z⟩, fun z => absurd rfl z⟩, fun z => absurd h0 z⟩⟩
    rw [c94]
    unfold jm_cmp
    rw [if_neg (by omega), if_pos rfl]
theorem z_k15 (hS : z_S w h sl fo ba su M) (i0 : 0 ≤ i) (i1 : i + 6 ≤ M 998 (-1)) (i2 : M 998 (-1) ≤ 3072) (K : ∀ M2 p5 p6, z_Sm M2 → y_gh 760 M M2 → M2 998 = M 998 → jm_run 216 (873, z_ls i p5 p6, [], M2) Q) : jm_run 216 (500, z_ls i o5 o6, [], M) Q := by
  refine sg_216_500 ⟨⟨by omega, by omega⟩, by omega, by omega, z_go (z_ways hS _) ?_⟩
  intro x M1 e1 h2
  refine ⟨x, rfl, ?_⟩
  rw [e1]
  refine ⟨⟨by omega, by omega⟩, by omega, by omega, jm_cl_mono h2 ?_⟩
  intro r M2 h3
  obtain ⟨⟨hr, hS2, hg⟩, e2⟩ := h3
  exact ⟨x, hr, fun _ => K M2 _ _ hS2 hg (e2.trans e1), fun z => absurd rfl z⟩
theorem z_k16 (hS : z_S w h sl fo ba su M) (i0 : 0 ≤ i) (i1 : i + 6 ≤ M 998 (-1)) (i2 : M 998 (-1) ≤ 3072) (K : ∀ M2 p5 p6, z_Sm M2 → y_gh 760 M M2 → M2 998 = M 998 → jm_run 216 (873, z_ls i p5 p6, [], M2) Q) : jm_run 216 (517, z_ls i o5 o6, [], M) Q := by
  refine sg_216_517 ⟨⟨by omega, by omega⟩, by omega, by omega, z_gt (z_excess hS _) ?_ ?_⟩
  · intro M1 e1 e9 h2
    have e98 : jm_gh M1 1 6 998 = M 998 := by rw [(jm_gh_0 M1 1 6).2.2 998 (by decide)]; exact e1
    refine Or.inl ⟨rfl, ?_⟩
    rw [e98]
    refine ⟨⟨by omega, by omega⟩, by omega, by omega, jm_cl_mono (h2 _ (fun c hc => (jm_gh_0 M1 1 6).2.2 c (fun q => hc (by rw [q]; decide)))) ?_⟩
    intro r M3 h3
    obtain ⟨⟨y, hr, h0, hS3, a9⟩, e3⟩ := h3
    refine ⟨y, hr, sc_118 ⟨_, rfl, fun _ => ⟨fun z => absurd z (by decide), fun _ => K M3 _ _ hS3 (y_gh_thr e9 a9) (e3.trans e98)⟩, fun z => absurd h0 z⟩⟩
  · intro x M1 e1 e9 h2
    have e98 : jm_st M1 94 0 x 998 = M 998 := e1
    refine Or.inr ⟨x, rfl, ?_⟩
    rw [e98]
    refine ⟨⟨by omega, by omega⟩, by omega, by omega, jm_cl_mono (h2 _ (fun c hc => if_neg (fun q => hc (by rw [q]; decide)))) ?_⟩
    intro r M3 h3
    obtain ⟨⟨hr, h0, hS3, a9, a94⟩, e3⟩ := h3
    have c94 : M3 94 0 = x := by rw [a94]; rfl
    refine ⟨x, hr, sc_118 ⟨_, rfl, fun _ => ⟨fun _ => ⟨by omega, by omega, fun _ => K M3 _ _ hS3 (z_gh (a9.trans e9)) (e3.trans e98), fun z => absurd ?_ z⟩, fun z => absurd rfl z⟩, fun z => absurd h0 z⟩⟩
    rw [c94]
    unfold jm_cmp
    rw [if_neg (by omega), if_pos rfl]
theorem z_k17 (hS : z_S w h sl fo ba su M) (i0 : 0 ≤ i) (i1 : i + 6 ≤ M 998 (-1)) (i2 : M 998 (-1) ≤ 3072) (K : ∀ M2 p5 p6, z_Sm M2 → y_gh 760 M M2 → M2 998 = M 998 → jm_run 216 (873, z_ls i p5 p6, [], M2) Q) : jm_run 216 (552, z_ls i o5 o6, [], M) Q := by
  refine sg_216_552 ⟨⟨by omega, by omega⟩, by omega, by omega, ⟨by omega, by omega⟩, by omega, by omega, z_go (z_cut hS _ _) ?_⟩
  intro x M1 e1 h2
  refine ⟨x, rfl, ?_⟩
  rw [e1]
  refine ⟨⟨by omega, by omega⟩, by omega, by omega, ⟨by omega, by omega⟩, by omega, by omega, jm_cl_mono h2 ?_⟩
  intro r M2 h3
  obtain ⟨⟨hr, hS2, hg⟩, e2⟩ := h3
  exact ⟨x, hr, fun _ => K M2 _ _ hS2 hg (e2.trans e1), fun z => absurd rfl z⟩
theorem z_k18 (hS : z_S w h sl fo ba su M) (i0 : 0 ≤ i) (i1 : i + 6 ≤ M 998 (-1)) (i2 : M 998 (-1) ≤ 3072) (K : ∀ M2 p5 p6, z_Sm M2 → y_gh 760 M M2 → M2 998 = M 998 → jm_run 216 (873, z_ls i p5 p6, [], M2) Q) : jm_run 216 (579, z_ls i o5 o6, [], M) Q := by
  refine sg_216_579 ⟨⟨by omega, by omega⟩, by omega, by omega, z_go (z_rings hS _) ?_⟩
  intro x M1 e1 h2
  refine ⟨x, rfl, ?_⟩
  rw [e1]
  refine ⟨⟨by omega, by omega⟩, by omega, by omega, jm_cl_mono h2 ?_⟩
  intro r M2 h3
  obtain ⟨⟨hr, hS2, hg⟩, e2⟩ := h3
  exact ⟨x, hr, fun _ => K M2 _ _ hS2 hg (e2.trans e1), fun z => absurd rfl z⟩
theorem z_k19 (hS : z_S w h sl fo ba su M) (i0 : 0 ≤ i) (i1 : i + 6 ≤ M 998 (-1)) (i2 : M 998 (-1) ≤ 3072) (K : ∀ M2 p5 p6, z_Sm M2 → y_gh 760 M M2 → M2 998 = M 998 → jm_run 216 (873, z_ls i p5 p6, [], M2) Q) : jm_run 216 (596, z_ls i o5 o6, [], M) Q := by
  refine sg_216_596 ⟨⟨by omega, by omega⟩, by omega, by omega, ⟨by omega, by omega⟩, by omega, by omega, z_go (z_shared hS _ _) ?_⟩
  intro x M1 e1 h2
  refine ⟨x, rfl, ?_⟩
  rw [e1]
  refine ⟨⟨by omega, by omega⟩, by omega, by omega, ⟨by omega, by omega⟩, by omega, by omega, jm_cl_mono h2 ?_⟩
  intro r M2 h3
  obtain ⟨⟨hr, hS2, hg⟩, e2⟩ := h3
  exact ⟨x, hr, fun _ => K M2 _ _ hS2 hg (e2.trans e1), fun z => absurd rfl z⟩
theorem z_k20 (hS : z_S w h sl fo ba su M) (i0 : 0 ≤ i) (i1 : i + 6 ≤ M 998 (-1)) (i2 : M 998 (-1) ≤ 3072) (K : ∀ M2 p5 p6, z_Sm M2 → y_gh 760 M M2 → M2 998 = M 998 → jm_run 216 (873, z_ls i p5 p6, [], M2) Q) : jm_run 216 (623, z_ls i o5 o6, [], M) Q := by
  refine sg_216_623 ⟨⟨by omega, by omega⟩, by omega, by omega, ⟨by omega, by omega⟩, by omega, by omega, ⟨by omega, by omega⟩, by omega, by omega, z_go (z_gather hS _ _ _) ?_⟩
  intro x M1 e1 h2
  refine ⟨x, rfl, ?_⟩
  rw [e1]
  refine ⟨⟨by omega, by omega⟩, by omega, by omega, ⟨by omega, by omega⟩, by omega, by omega, ⟨by omega, by omega⟩, by omega, by omega, jm_cl_mono h2 ?_⟩
  intro r M2 h3
  obtain ⟨⟨hr, hS2, hg⟩, e2⟩ := h3
  exact ⟨x, hr, fun _ => K M2 _ _ hS2 hg (e2.trans e1), fun z => absurd rfl z⟩
theorem z_k21 (hS : z_S w h sl fo ba su M) (i0 : 0 ≤ i) (i1 : i + 6 ≤ M 998 (-1)) (i2 : M 998 (-1) ≤ 3072) (K : ∀ M2 p5 p6, z_Sm M2 → y_gh 760 M M2 → M2 998 = M 998 → jm_run 216 (873, z_ls i p5 p6, [], M2) Q) : jm_run 216 (660, z_ls i o5 o6, [], M) Q := by
  refine sg_216_660 ⟨⟨by omega, by omega⟩, by omega, by omega, ⟨by omega, by omega⟩, by omega, by omega, z_go (z_supply hS _ _) ?_⟩
  intro x M1 e1 h2
  refine ⟨x, rfl, ?_⟩
  rw [e1]
  refine ⟨⟨by omega, by omega⟩, by omega, by omega, ⟨by omega, by omega⟩, by omega, by omega, jm_cl_mono h2 ?_⟩
  intro r M2 h3
  obtain ⟨⟨hr, hS2, hg⟩, e2⟩ := h3
  exact ⟨x, hr, fun _ => K M2 _ _ hS2 hg (e2.trans e1), fun z => absurd rfl z⟩
theorem z_k22 (hS : z_S w h sl fo ba su M) (i0 : 0 ≤ i) (i1 : i + 6 ≤ M 998 (-1)) (i2 : M 998 (-1) ≤ 3072) (K : ∀ M2 p5 p6, z_Sm M2 → y_gh 760 M M2 → M2 998 = M 998 → jm_run 216 (873, z_ls i p5 p6, [], M2) Q) : jm_run 216 (687, z_ls i o5 o6, [], M) Q := by
  refine sg_216_687 (z_go (z_meet hS) ?_)
  intro x M1 e1 h2
  refine ⟨x, rfl, ?_⟩
  refine jm_cl_mono h2 ?_
  intro r M2 h3
  obtain ⟨⟨hr, hS2, hg⟩, e2⟩ := h3
  exact ⟨x, hr, fun _ => K M2 _ _ hS2 hg (e2.trans e1), fun z => absurd rfl z⟩
theorem z_k23 (hS : z_S w h sl fo ba su M) (i0 : 0 ≤ i) (i1 : i + 6 ≤ M 998 (-1)) (i2 : M 998 (-1) ≤ 3072) (K : ∀ M2 p5 p6, z_Sm M2 → y_gh 760 M M2 → M2 998 = M 998 → jm_run 216 (873, z_ls i p5 p6, [], M2) Q) : jm_run 216 (694, z_ls i o5 o6, [], M) Q := by
  refine sg_216_694 ⟨⟨by omega, by omega⟩, by omega, by omega, z_go (z_gave hS _) ?_⟩
  intro x M1 e1 h2
  refine ⟨x, rfl, ?_⟩
  rw [e1]
  refine ⟨⟨by omega, by omega⟩, by omega, by omega, jm_cl_mono h2 ?_⟩
  intro r M2 h3
  obtain ⟨⟨hr, hS2, hg⟩, e2⟩ := h3
  exact ⟨x, hr, fun _ => K M2 _ _ hS2 hg (e2.trans e1), fun z => absurd rfl z⟩
theorem z_k24 (hS : z_S w h sl fo ba su M) (i0 : 0 ≤ i) (i1 : i + 6 ≤ M 998 (-1)) (i2 : M 998 (-1) ≤ 3072) (K : ∀ M2 p5 p6, z_Sm M2 → y_gh 760 M M2 → M2 998 = M 998 → jm_run 216 (873, z_ls i p5 p6, [], M2) Q) : jm_run 216 (711, z_ls i o5 o6, [], M) Q := by
  refine sg_216_711 ⟨⟨by omega, by omega⟩, by omega, by omega, ⟨by omega, by omega⟩, by omega, by omega, ⟨by omega, by omega⟩, by omega, by omega, ⟨by omega, by omega⟩, by omega, by omega, z_go (z_were hS _ _ _ _) ?_⟩
  intro x M1 e1 h2
  refine ⟨x, rfl, ?_⟩
  rw [e1]
  refine ⟨⟨by omega, by omega⟩, by omega, by omega, ⟨by omega, by omega⟩, by omega, by omega, ⟨by omega, by omega⟩, by omega, by omega, ⟨by omega, by omega⟩, by omega, by omega, jm_cl_mono h2 ?_⟩
  intro r M2 h3
  obtain ⟨⟨hr, hS2, hg⟩, e2⟩ := h3
  exact ⟨x, hr, fun _ => K M2 _ _ hS2 hg (e2.trans e1), fun z => absurd rfl z⟩
theorem z_k25 (hS : z_S w h sl fo ba su M) (i0 : 0 ≤ i) (i1 : i + 6 ≤ M 998 (-1)) (i2 : M 998 (-1) ≤ 3072) (K : ∀ M2 p5 p6, z_Sm M2 → y_gh 760 M M2 → M2 998 = M 998 → jm_run 216 (873, z_ls i p5 p6, [], M2) Q) : jm_run 216 (758, z_ls i o5 o6, [], M) Q := by
  refine sg_216_758 ⟨⟨by omega, by omega⟩, by omega, by omega, ⟨by omega, by omega⟩, by omega, by omega, ⟨by omega, by omega⟩, by omega, by omega, z_go (z_counts hS _ _ _) ?_⟩
  intro x M1 e1 h2
  refine ⟨x, rfl, ?_⟩
  rw [e1]
  refine ⟨⟨by omega, by omega⟩, by omega, by omega, ⟨by omega, by omega⟩, by omega, by omega, ⟨by omega, by omega⟩, by omega, by omega, jm_cl_mono h2 ?_⟩
  intro r M2 h3
  obtain ⟨⟨hr, hS2, hg⟩, e2⟩ := h3
  exact ⟨x, hr, fun _ => K M2 _ _ hS2 hg (e2.trans e1), fun z => absurd rfl z⟩
theorem z_k26 (hS : z_S w h sl fo ba su M) (i0 : 0 ≤ i) (i1 : i + 6 ≤ M 998 (-1)) (i2 : M 998 (-1) ≤ 3072) (K : ∀ M2 p5 p6, z_Sm M2 → y_gh 760 M M2 → M2 998 = M 998 → jm_run 216 (873, z_ls i p5 p6, [], M2) Q) : jm_run 216 (795, z_ls i o5 o6, [], M) Q := by
  refine sg_216_795 ⟨⟨by omega, by omega⟩, by omega, by omega, ⟨by omega, by omega⟩, by omega, by omega, z_go (z_worst hS _ _) ?_⟩
  intro x M1 e1 h2
  refine ⟨x, rfl, ?_⟩
  rw [e1]
  refine ⟨⟨by omega, by omega⟩, by omega, by omega, ⟨by omega, by omega⟩, by omega, by omega, jm_cl_mono h2 ?_⟩
  intro r M2 h3
  obtain ⟨⟨hr, hS2, hg⟩, e2⟩ := h3
  exact ⟨x, hr, fun _ => K M2 _ _ hS2 hg (e2.trans e1), fun z => absurd rfl z⟩
theorem z_k27 (hS : z_S w h sl fo ba su M) (i0 : 0 ≤ i) (i1 : i + 6 ≤ M 998 (-1)) (i2 : M 998 (-1) ≤ 3072) (K : ∀ M2 p5 p6, z_Sm M2 → y_gh 760 M M2 → M2 998 = M 998 → jm_run 216 (873, z_ls i p5 p6, [], M2) Q) : jm_run 216 (822, z_ls i o5 o6, [], M) Q := by
  refine sg_216_822 ⟨⟨by omega, by omega⟩, by omega, by omega, z_go (z_image hS _) ?_⟩
  intro x M1 e1 h2
  refine ⟨x, rfl, ?_⟩
  rw [e1]
  refine ⟨⟨by omega, by omega⟩, by omega, by omega, jm_cl_mono h2 ?_⟩
  intro r M2 h3
  obtain ⟨⟨hr, hS2, hg⟩, e2⟩ := h3
  exact ⟨x, hr, fun _ => K M2 _ _ hS2 hg (e2.trans e1), fun z => absurd rfl z⟩
theorem z_k28 (hS : z_S w h sl fo ba su M) (i0 : 0 ≤ i) (i1 : i + 6 ≤ M 998 (-1)) (i2 : M 998 (-1) ≤ 3072) (K : ∀ M2 p5 p6, z_Sm M2 → y_gh 760 M M2 → M2 998 = M 998 → jm_run 216 (873, z_ls i p5 p6, [], M2) Q) : jm_run 216 (839, z_ls i o5 o6, [], M) Q := by
  refine sg_216_839 ⟨⟨by omega, by omega⟩, by omega, by omega, z_go (z_back hS _) ?_⟩
  intro x M1 e1 h2
  refine ⟨x, rfl, ?_⟩
  rw [e1]
  refine ⟨⟨by omega, by omega⟩, by omega, by omega, jm_cl_mono h2 ?_⟩
  intro r M2 h3
  obtain ⟨⟨hr, hS2, hg⟩, e2⟩ := h3
  exact ⟨x, hr, fun _ => K M2 _ _ hS2 hg (e2.trans e1), fun z => absurd rfl z⟩
theorem z_k29 (hS : z_S w h sl fo ba su M) (i0 : 0 ≤ i) (i1 : i + 6 ≤ M 998 (-1)) (i2 : M 998 (-1) ≤ 3072) (K : ∀ M2 p5 p6, z_Sm M2 → y_gh 760 M M2 → M2 998 = M 998 → jm_run 216 (873, z_ls i p5 p6, [], M2) Q) : jm_run 216 (856, z_ls i o5 o6, [], M) Q := by
  refine sg_216_856 ⟨⟨by omega, by omega⟩, by omega, by omega, z_go (z_count hS _) ?_⟩
  intro x M1 e1 h2
  refine ⟨x, rfl, ?_⟩
  rw [e1]
  refine ⟨⟨by omega, by omega⟩, by omega, by omega, jm_cl_mono h2 ?_⟩
  intro r M2 h3
  obtain ⟨⟨hr, hS2, hg⟩, e2⟩ := h3
  exact ⟨x, hr, fun _ => K M2 _ _ hS2 hg (e2.trans e1), fun z => absurd rfl z⟩
end ZL
theorem z_law {L g0 g1 : Int} (L0 : 0 ≤ L) (L1 : L ≤ 3072) : ∀ (r : Nat) (c : Int) (o5 o6 : Option jm_V) (M : jm_Mem), L - 6 * c + 6 ≤ (r : Int) → 0 ≤ c → M 998 (-1) = L → z_Sm M → M 999 0 ≤ g0 + 760 * c → M 999 1 ≤ g1 + 3800 * c → c ≤ 512 → jm_run 216 (13, z_ls (6 * c) o5 o6, [], M) (fun r M' => r = some (jm_I 1) ∧ M' 999 0 ≤ g0 + 389120 ∧ M' 999 1 ≤ g1 + 1945600)
  | 0, c, o5, o6, M, hr, c0, hL, hS, a0, a1, c1 => by
    refine sg_216_13 ?_
    rw [hL]
    exact ⟨⟨by omega, by omega⟩, fun _ => ⟨by omega, by omega, rfl, by omega, by omega⟩, fun z => by omega⟩
  | r + 1, c, o5, o6, M, hr, c0, hL, hS, a0, a1, c1 => by
    obtain ⟨w, h, sl, fo, ba, su, hS⟩ := hS
    by_cases q : L - 6 < 6 * c
    · refine sg_216_13 ?_
      rw [hL]
      exact ⟨⟨by omega, by omega⟩, fun _ => ⟨by omega, by omega, rfl, by omega, by omega⟩, fun z => by omega⟩
    · have i0 : 0 ≤ 6 * c := by omega
      have i1 : 6 * c + 6 ≤ M 998 (-1) := by omega
      have K : ∀ M2 p5 p6, z_Sm M2 → y_gh 760 M M2 → M2 998 = M 998 → jm_run 216 (873, z_ls (6 * c) p5 p6, [], M2) (fun r M' => r = some (jm_I 1) ∧ M' 999 0 ≤ g0 + 389120 ∧ M' 999 1 ≤ g1 + 1945600) := by
        intro M2 p5 p6 hS2 hg e2
        refine sg_216_873 ⟨⟨by omega, by omega⟩, ?_⟩
        have e : 6 * c + 6 = 6 * (c + 1) := by omega
        rw [e]
        unfold y_gh at hg
        exact z_law L0 L1 r (c + 1) p5 p6 M2 (by omega) (by omega) (by rw [e2]; exact hL) hS2 (by omega) (by omega) (by omega)
      exact sg_216_13 ⟨⟨by omega, by omega⟩, fun z => by omega, fun _ => ⟨i0, by omega, Or.inr (Or.inl rfl), ⟨fun _ => z_k0 hS i0 i1 (by omega) K, fun _ => ⟨fun _ => z_k1 hS i0 i1 (by omega) K, fun _ => ⟨fun _ => z_k2 hS i0 i1 (by omega) K, fun _ => ⟨fun _ => z_k3 hS i0 i1 (by omega) K, fun _ => ⟨fun _ => z_k4 hS i0 i1 (by omega) K, fun _ => ⟨fun _ => z_k5 hS i0 i1 (by omega) K, fun _ => ⟨fun _ => z_k6 hS i0 i1 (by omega) K, fun _ => ⟨fun _ => z_k7 hS i0 i1 (by omega) K, fun _ => ⟨fun _ => z_k8 hS i0 i1 (by omega) K, fun _ => ⟨fun _ => z_k9 hS i0 i1 (by omega) K, fun _ => ⟨fun _ => z_k10 hS i0 i1 (by omega) K, fun _ => ⟨fun _ => z_k11 hS i0 i1 (by omega) K, fun _ => ⟨fun _ => z_k12 hS i0 i1 (by omega) K, fun _ => ⟨fun _ => z_k13 hS i0 i1 (by omega) K, fun _ => ⟨fun _ => z_k14 hS i0 i1 (by omega) K, fun _ => ⟨fun _ => z_k15 hS i0 i1 (by omega) K, fun _ => ⟨fun _ => z_k16 hS i0 i1 (by omega) K, fun _ => ⟨fun _ => z_k17 hS i0 i1 (by omega) K, fun _ => ⟨fun _ => z_k18 hS i0 i1 (by omega) K, fun _ => ⟨fun _ => z_k19 hS i0 i1 (by omega) K, fun _ => ⟨fun _ => z_k20 hS i0 i1 (by omega) K, fun _ => ⟨fun _ => z_k21 hS i0 i1 (by omega) K, fun _ => ⟨fun _ => z_k22 hS i0 i1 (by omega) K, fun _ => ⟨fun _ => z_k23 hS i0 i1 (by omega) K, fun _ => ⟨fun _ => z_k24 hS i0 i1 (by omega) K, fun _ => ⟨fun _ => z_k25 hS i0 i1 (by omega) K, fun _ => ⟨fun _ => z_k26 hS i0 i1 (by omega) K, fun _ => ⟨fun _ => z_k27 hS i0 i1 (by omega) K, fun _ => ⟨fun _ => z_k28 hS i0 i1 (by omega) K, fun _ => ⟨fun _ => z_k29 hS i0 i1 (by omega) K, fun _ => K M _ _ ⟨w, h, sl, fo, ba, su, hS⟩ (z_gh rfl) rfl⟩⟩⟩⟩⟩⟩⟩⟩⟩⟩⟩⟩⟩⟩⟩⟩⟩⟩⟩⟩⟩⟩⟩⟩⟩⟩⟩⟩⟩⟩⟩⟩
