theorem st_x {s : Nat} (hs : s < 10) {post : Int32 → Prop} (h : post 1) : wpX_isState post (nI s) := pk_lt s 0 (fun z => absurd z (by omega)) (fun _ => pk_le 10 s (fun z => absurd z (by omega)) (fun _ => h))
theorem st_y {s : Nat} (hs : s < 10) {post : Int32 → Prop} {c g n m : Nat → Int32} (h : post 1) : wpY_isState post (c, g, n, m) (nI s) := pk_lt s 0 (fun z => absurd z (by omega)) (fun _ => pk_le 10 s (fun z => absurd z (by omega)) (fun _ => h))
theorem st_cases (x : Int32) : (∃ s, s < 10 ∧ x = nI s) ∨ ((∀ post : Int32 → Prop, post 0 → wpX_isState post x) ∧ (∀ (post : Int32 → Prop) (c g n m : Nat → Int32), post 0 → wpY_isState post (c, g, n, m) x)) := by
  by_cases h0 : x < 0
  · exact Or.inr ⟨fun post h => br_t h0 h, fun post c g n m h => br_t h0 h⟩
  · obtain ⟨j, hj, rfl⟩ := nI_of h0
    by_cases h1 : j < 10
    · exact Or.inl ⟨j, h1, rfl⟩
    · exact Or.inr ⟨fun post h => br_f h0 (pk_le 10 j (fun _ => h) (fun z => absurd z (by omega))), fun post c g n m h => br_f h0 (pk_le 10 j (fun _ => h) (fun z => absurd z (by omega)))⟩
theorem so_x {o : Nat} (ho : o < 2) {post : Int32 → Prop} (h : post 1) : wpX_isSort post (nI o) := pk_lt o 0 (fun z => absurd z (by omega)) (fun _ => pk_le 2 o (fun z => absurd z (by omega)) (fun _ => h))
theorem so_y {o : Nat} (ho : o < 2) {A B C : Prop} (h : C) : (nI o < 0 → A) ∧ (¬ nI o < 0 → ((1 < nI o → B) ∧ (¬ 1 < nI o → C))) := pk_lt o 0 (fun z => absurd z (by omega)) (fun _ => pk_lt 1 o (fun z => absurd z (by omega)) (fun _ => h))
theorem so_cases (x : Int32) : (∃ o, o < 2 ∧ x = nI o) ∨ ((∀ post : Int32 → Prop, post 0 → wpX_isSort post x) ∧ (∀ A C : Prop, A → (x < 0 → A) ∧ (¬ x < 0 → ((1 < x → A) ∧ (¬ 1 < x → C))))) := by
  by_cases h0 : x < 0
  · exact Or.inr ⟨fun post h => br_t h0 h, fun A C h => br_t h0 h⟩
  · obtain ⟨j, hj, rfl⟩ := nI_of h0
    by_cases h1 : j < 2
    · exact Or.inl ⟨j, h1, rfl⟩
    · exact Or.inr ⟨fun post h => br_f h0 (pk_le 2 j (fun _ => h) (fun z => absurd z (by omega))), fun A C h => br_f h0 (pk_lt 1 j (fun _ => h) (fun z => absurd z (by omega)))⟩
theorem xm_alike {post : Int32 → SX → Prop} {c a l f t r g : Nat → Int32} {K : Nat} (hK : K ≤ 9) (hst : sp_st c g K) (hM : sp_M a g) {s u : Nat} (hs : s < 10) (hu : u < 10)
    (H : ∀ l f t r, post (sp_B (sp_A c g K s u)) (c, a, l, f, t, r)) : wpX_alike post (c, a, l, f, t, r) (nI s) (nI u) := by
  unfold wpX_alike
  dsimp only
  refine st_x hs (br_f (by decide) (st_x hu (br_f (by decide) ?_)))
  refine xt_K hK hst hM (fun lo fl lt tr h1 h2 h3 => ?_)
  have b1 := sp_ld_lt (sp_A c g K) hs
  have b2 := sp_ld_lt (sp_A c g K) hu
  have e := sp_ld_iff (sp_A_E c g K) hs hu
  dsimp only
  rw [nI_clamp (show s < 2 ^ 31 by omega), nI_clamp (show u < 2 ^ 31 by omega), h1 s hs, h1 u hu, nI_eq (by omega) (by omega), e]
  have H' := H lo fl lt tr
  refine ⟨vp_in_nI hs (by omega), vp_in_nI hu (by omega), br_c (fun z => ?_) (fun z => ?_)⟩
  · rw [sp_B_t z] at H'
    exact H'
  · rw [sp_B_f z] at H'
    exact H'
theorem ym_alike {post : Int32 → SY → Prop} {c g n m : Nat → Int32} {K : Nat} (hK : K ≤ 9) (hst : sp_st c g K) (hm : ∀ j, j < K → ¬ sp_st c g j) {s u : Nat} (hs : s < 10) (hu : u < 10)
    (H : ∀ n m, post (sp_B (sp_A c g K s u)) (c, g, n, m)) : wpY_alike post (c, g, n, m) (nI s) (nI u) := by
  unfold wpY_alike
  dsimp only
  refine st_y hs (br_f (by decide) (st_y hu (br_f (by decide) ?_)))
  refine yt_m hK hst hm (fun nw af hR => ?_)
  dsimp only
  rw [sp_ix s u, nI_clamp (show s * 10 + u < 2 ^ 31 by omega), sp_Rep_at hR hs hu]
  exact ⟨vp_in_nI (by omega) (by omega), sp_B_n _, H nw af⟩
theorem xm_classes {post : Int32 → SX → Prop} {c a l f t r g : Nat → Int32} {K : Nat} (hK : K ≤ 9) (hst : sp_st c g K) (hM : sp_M a g)
    (H : ∀ l f t r, post (nI (sp_cnt (sp_ld (sp_A c g K)) 10)) (c, a, l, f, t, r)) : wpX_classes post (c, a, l, f, t, r) := by
  unfold wpX_classes
  dsimp only
  refine xt_K hK hst hM (fun lo fl lt tr h1 h2 h3 => ?_)
  refine loop_0 (fun n i x => wX_classes_8 post c a lo fl lt tr n x (nI i)) (fun i x => x = nI (sp_cnt (sp_ld (sp_A c g K)) i)) 10 0 rfl ?_ ?_
  · intro n x h
    rw [h]
    exact pk_le 10 10 (fun _ => H lo fl lt tr) (fun z => absurd z (by omega))
  · intro n i x hi h k
    have b1 := sp_ld_lt (sp_A c g K) hi
    refine pk_le 10 i (fun z => absurd z (by omega)) (fun _ => ?_)
    rw [nI_clamp (show i < 2 ^ 31 by omega), h1 i hi, nI_eq (by omega) (by omega), h]
    exact ⟨vp_in_nI hi (by omega), br_c (fun z => nm_r (nI_1 _) (nm_r (nI_1 i) (k _ (by rw [sp_cnt_t z])))) (fun z => nm_r (nI_1 i) (k _ (by rw [sp_cnt_f z])))⟩
theorem ym_leader {post : Int32 → SY → Prop} {c g n m : Nat → Int32} {K : Nat} (hK : K ≤ 9) (hst : sp_st c g K) (hm : ∀ j, j < K → ¬ sp_st c g j) {s : Nat} (hs : s < 10)
    (H : ∀ n m, post (nI (sp_ld (sp_A c g K) s)) (c, g, n, m)) : wpY_leader post (c, g, n, m) (nI s) := by
  unfold wpY_leader
  dsimp only
  refine st_y hs (br_f (by decide) ?_)
  refine yt_m hK hst hm (fun nw af hR => ?_)
  exact yl_m (sp_A_E c g K) hR hs (H nw af)
theorem xm_leader {post : Int32 → SX → Prop} {c a l f t r g : Nat → Int32} {K : Nat} (hK : K ≤ 9) (hst : sp_st c g K) (hM : sp_M a g) {s : Nat} (hs : s < 10)
    (H : ∀ l f t r, post (nI (sp_ld (sp_A c g K) s)) (c, a, l, f, t, r)) : wpX_leader post (c, a, l, f, t, r) (nI s) := by
  unfold wpX_leader
  dsimp only
  refine st_x hs (br_f (by decide) ?_)
  refine xt_K hK hst hM (fun lo fl lt tr h1 h2 h3 => ?_)
  dsimp only
  rw [nI_clamp (show s < 2 ^ 31 by omega), h1 s hs]
  exact ⟨vp_in_nI hs (by omega), H lo fl lt tr⟩
theorem ym_classes {post : Int32 → SY → Prop} {c g n m : Nat → Int32} {K : Nat} (hK : K ≤ 9) (hst : sp_st c g K) (hm : ∀ j, j < K → ¬ sp_st c g j)
    (H : ∀ n m, post (nI (sp_cnt (sp_ld (sp_A c g K)) 10)) (c, g, n, m)) : wpY_classes post (c, g, n, m) := by
  unfold wpY_classes
  dsimp only
  refine loop_0 (σ := Int32 × (Nat → Int32) × (Nat → Int32)) (fun n i y => wY_classes_4 post n y.1 (nI i) c g y.2.1 y.2.2) (fun i y => y.1 = nI (sp_cnt (sp_ld (sp_A c g K)) i)) 10 (0, n, m) rfl ?_ ?_
  · intro n y h
    obtain ⟨x, nw, af⟩ := y
    have h : x = nI (sp_cnt (sp_ld (sp_A c g K)) 10) := h
    subst h
    exact pk_le 10 10 (fun _ => H nw af) (fun z => absurd z (by omega))
  · intro n i y hi h k
    obtain ⟨x, nw, af⟩ := y
    have h : x = nI (sp_cnt (sp_ld (sp_A c g K)) i) := h
    subst h
    have b1 := sp_ld_lt (sp_A c g K) hi
    refine pk_le 10 i (fun z => absurd z (by omega)) (fun _ => ym_leader hK hst hm hi (fun nw' af' => ?_))
    dsimp only
    rw [nI_eq (by omega) (by omega)]
    refine br_c (fun z => nm_r (nI_1 _) (nm_r (nI_1 i) (k (_, nw', af') ?_))) (fun z => nm_r (nI_1 i) (k (_, nw', af') ?_))
    · show nI _ = nI _
      rw [sp_cnt_t z]
    · show nI _ = nI _
      rw [sp_cnt_f z]
theorem xm_members {post : Int32 → SX → Prop} {c a l f t r g : Nat → Int32} {K : Nat} (hK : K ≤ 9) (hst : sp_st c g K) (hM : sp_M a g) {s : Nat} (hs : s < 10)
    (H : ∀ l f t r, post (sp_mem (fun u => sp_A c g K s u) 10) (c, a, l, f, t, r)) : wpX_members post (c, a, l, f, t, r) (nI s) := by
  unfold wpX_members
  dsimp only
  refine st_x hs (br_f (by decide) ?_)
  refine xt_K hK hst hM (fun lo fl lt tr h1 h2 h3 => ?_)
  refine loop_0 (fun n i x => wX_members_17 post (nI s) c a lo fl lt tr n x (nI i)) (fun i x => x = sp_mem (fun u => sp_A c g K s u) i) 10 0 rfl ?_ ?_
  · intro n x h
    rw [h]
    exact pk_le 10 10 (fun _ => H lo fl lt tr) (fun z => absurd z (by omega))
  · intro n i x hi h k
    have b1 := sp_ld_lt (sp_A c g K) hi
    have b2 := sp_ld_lt (sp_A c g K) hs
    have hE := sp_A_E c g K
    have e := sp_ld_iff hE hi hs
    refine pk_le 10 i (fun z => absurd z (by omega)) (fun _ => ?_)
    rw [nI_clamp (show i < 2 ^ 31 by omega), nI_clamp (show s < 2 ^ 31 by omega), h1 i hi, h1 s hs, nI_eq (by omega) (by omega), e, h]
    exact ⟨vp_in_nI hi (by omega), vp_in_nI hs (by omega), br_c (fun z => nm_e (nm_r (nI_1 i) (k _ (sp_mem_t (hE.2.1 _ _ hi hs z)).symm))) (fun z => nm_r (nI_1 i) (k _ (sp_mem_f (fun w => z (hE.2.1 _ _ hs hi w))).symm))⟩
theorem ym_members {post : Int32 → SY → Prop} {c g n m : Nat → Int32} {K : Nat} (hK : K ≤ 9) (hst : sp_st c g K) (hm : ∀ j, j < K → ¬ sp_st c g j) {s : Nat} (hs : s < 10)
    (H : ∀ n m, post (sp_mem (fun u => sp_A c g K s u) 10) (c, g, n, m)) : wpY_members post (c, g, n, m) (nI s) := by
  unfold wpY_members
  dsimp only
  refine st_y hs (br_f (by decide) ?_)
  refine yt_m hK hst hm (fun nw af hR => ?_)
  refine loop_0 (fun n i x => wY_members_19 post (nI s) c g nw af n x (nI i)) (fun i x => x = sp_mem (fun u => sp_A c g K s u) i) 10 0 rfl ?_ ?_
  · intro n x h
    rw [h]
    exact pk_le 10 10 (fun _ => H nw af) (fun z => absurd z (by omega))
  · intro n i x hi h k
    refine pk_le 10 i (fun z => absurd z (by omega)) (fun _ => ?_)
    rw [sp_ix s i, nI_clamp (show s * 10 + i < 2 ^ 31 by omega), sp_Rep_at hR hs hi, h]
    exact ⟨vp_in_nI (by omega) (by omega), br_c (fun z => nm_r (nI_1 i) (k _ (sp_mem_f (sp_B_0.mp z)).symm)) (fun z => nm_e (nm_r (nI_1 i) (k _ (sp_mem_t (Classical.byContradiction (fun w => z (sp_B_f w)))).symm)))⟩
theorem xm_told {post : Int32 → SX → Prop} {c a l f t r g : Nat → Int32} {K : Nat} (hK : K ≤ 9) (hst : sp_st c g K) (hM : sp_M a g) {s u : Nat} (hs : s < 10) (hu : u < 10)
    (H : ∀ l f t r, post (sp_T c g (s * 10 + u) 11) (c, a, l, f, t, r)) : wpX_told post (c, a, l, f, t, r) (nI s) (nI u) := by
  unfold wpX_told
  dsimp only
  refine st_x hs (br_f (by decide) (st_x hu (br_f (by decide) ?_)))
  refine xt_K hK hst hM (fun lo fl lt tr h1 h2 h3 => ?_)
  dsimp only
  rw [sp_ix s u, nI_clamp (show s * 10 + u < 2 ^ 31 by omega), h3 _ (by omega)]
  exact ⟨vp_in_nI (by omega) (by omega), H lo fl lt tr⟩
theorem yo_a {post : Int32 → SY → Prop} {c g : Nat → Int32} {K : Nat} (hst : sp_st c g K) (hm : ∀ j, j < K → ¬ sp_st c g j) {s u : Nat} (hs : s < 10) (hu : u < 10) (hA : ∀ j, sp_A c g j s u)
    (H : ∀ n m, post (-2) (c, g, n, m)) :
    ∀ d k nw af, k + d = K → sp_Rep nw (sp_A c g k) → wY_told_24 post (nI s) (nI u) (d + 1) (nI k) c g nw af := by
  intro d
  induction d with
  | zero =>
    intro k nw af hk hR
    have e : k = K := by omega
    subst e
    rw [wY_told_24]
    dsimp only
    rw [sp_ix s u, nI_clamp (show s * 10 + u < 2 ^ 31 by omega), sp_Rep_at hR hs hu, sp_B_t (hA k)]
    exact ⟨vp_in_nI (by omega) (by omega), br_f (by decide) (yr_k hR (fun z => absurd hst z) (fun _ nw' af' h => br_t rfl (H nw' af')))⟩
  | succ d ih =>
    intro k nw af hk hR
    rw [wY_told_24]
    dsimp only
    rw [sp_ix s u, nI_clamp (show s * 10 + u < 2 ^ 31 by omega), sp_Rep_at hR hs hu, sp_B_t (hA k)]
    exact ⟨vp_in_nI (by omega) (by omega), br_f (by decide) (yr_k hR (fun _ nw' af' h => br_f (by decide) (nm_r (nI_1 k) (ih (k + 1) nw' af' (by omega) h))) (fun z => absurd z (hm k (by omega))))⟩
theorem yo_b {post : Int32 → SY → Prop} {c g : Nat → Int32} {K : Nat} (hm : ∀ j, j < K → ¬ sp_st c g j) {s u : Nat} (hs : s < 10) (hu : u < 10) {j : Nat} (hj : j ≤ K) (hN : ¬ sp_A c g j s u) (hA : ∀ i, i < j → sp_A c g i s u)
    (H : ∀ n m, post (nI j) (c, g, n, m)) :
    ∀ d k nw af, k + d = j → sp_Rep nw (sp_A c g k) → wY_told_24 post (nI s) (nI u) (d + 1) (nI k) c g nw af := by
  intro d
  induction d with
  | zero =>
    intro k nw af hk hR
    have e : k = j := by omega
    subst e
    rw [wY_told_24]
    dsimp only
    rw [sp_ix s u, nI_clamp (show s * 10 + u < 2 ^ 31 by omega), sp_Rep_at hR hs hu, sp_B_f hN]
    exact ⟨vp_in_nI (by omega) (by omega), br_t rfl (H nw af)⟩
  | succ d ih =>
    intro k nw af hk hR
    rw [wY_told_24]
    dsimp only
    rw [sp_ix s u, nI_clamp (show s * 10 + u < 2 ^ 31 by omega), sp_Rep_at hR hs hu, sp_B_t (hA k (by omega))]
    exact ⟨vp_in_nI (by omega) (by omega), br_f (by decide) (yr_k hR (fun _ nw' af' h => br_f (by decide) (nm_r (nI_1 k) (ih (k + 1) nw' af' (by omega) h))) (fun z => absurd z (hm k (by omega))))⟩
theorem ym_told {post : Int32 → SY → Prop} {c g n m : Nat → Int32} {K : Nat} (hK : K ≤ 9) (hst : sp_st c g K) (hm : ∀ j, j < K → ¬ sp_st c g j) {s u : Nat} (hs : s < 10) (hu : u < 10)
    (H : ∀ n m, post (sp_T c g (s * 10 + u) 11) (c, g, n, m)) : wpY_told post (c, g, n, m) (nI s) (nI u) := by
  unfold wpY_told
  dsimp only
  refine st_y hs (br_f (by decide) (st_y hu (br_f (by decide) ?_)))
  refine yb_m (fun nw hR => ?_)
  have hc := sp_T_cases hK hst (show s * 10 + u < 100 by omega)
  rw [show (s * 10 + u) / 10 = s by omega, show (s * 10 + u) % 10 = u by omega] at hc
  rcases hc with ⟨e, hA⟩ | ⟨j, hj, e, hN, hA⟩
  · rw [e] at H
    exact ⟨K + 1, yo_a hst hm hs hu hA H K 0 nw m (by omega) hR⟩
  · rw [e] at H
    exact ⟨j + 1, yo_b hm hs hu hj hN hA H j 0 nw m (by omega) hR⟩
theorem xm_leads {post : Int32 → SX → Prop} {c a l f t r g : Nat → Int32} {K : Nat} (hK : K ≤ 9) (hst : sp_st c g K) (hM : sp_M a g) {o s : Nat} (ho : o < 2) (hs : s < 10)
    (H : ∀ l f t r, post (sp_LT g (sp_ld (sp_A c g K)) (o * 10 + s) 10) (c, a, l, f, t, r)) : wpX_leads post (c, a, l, f, t, r) (nI o) (nI s) := by
  unfold wpX_leads
  dsimp only
  refine so_x ho (br_f (by decide) (st_x hs (br_f (by decide) ?_)))
  refine xt_K hK hst hM (fun lo fl lt tr h1 h2 h3 => ?_)
  dsimp only
  rw [sp_ix o s, nI_clamp (show o * 10 + s < 2 ^ 31 by omega), h2 _ (by omega)]
  exact ⟨vp_in_nI (by omega) (by omega), H lo fl lt tr⟩
theorem ym_leads {post : Int32 → SY → Prop} {c g n m : Nat → Int32} {K : Nat} (hK : K ≤ 9) (hst : sp_st c g K) (hm : ∀ j, j < K → ¬ sp_st c g j) {o s : Nat} (ho : o < 2) (hs : s < 10)
    (H : ∀ n m, post (sp_LT g (sp_ld (sp_A c g K)) (o * 10 + s) 10) (c, g, n, m)) : wpY_leads post (c, g, n, m) (nI o) (nI s) := by
  unfold wpY_leads
  dsimp only
  refine so_y ho (st_y hs (br_f (by decide) ?_))
  refine yt_m hK hst hm (fun nw af hR => ?_)
  refine loop_0 (fun n i x => wY_leads_29 post (nI o) (nI s) c g nw af n x (nI i)) (fun i x => x = sp_LT g (sp_ld (sp_A c g K)) (o * 10 + s) i) 10 0 rfl ?_ ?_
  · intro n x h
    rw [h]
    exact pk_le 10 10 (fun _ => H nw af) (fun z => absurd z (by omega))
  · intro n i x hi h k
    refine pk_le 10 i (fun z => absurd z (by omega)) (fun _ => ?_)
    rw [sp_ix2 o s i, nI_clamp (show (o * 10 + s) * 10 + i < 2 ^ 31 by omega), h]
    exact ⟨vp_in_nI (by omega) (by omega), br_c (fun z => nm_r (nI_1 i) (k _ (sp_LT_t z).symm)) (fun z => yl_m (sp_A_E c g K) hR hi (nm_e (nm_r (nI_1 i) (k _ (sp_LT_f z).symm))))⟩
