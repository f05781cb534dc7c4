theorem xf_12 {post : SX → Prop} {J : Int32 → (Nat → Int32) → (Nat → Int32) → (Nat → Int32) → (Nat → Int32) → (Nat → Int32) → (Nat → Int32) → Prop} {co tg lo fl lt tr g : Nat → Int32} {l : Nat → Nat} {p : Nat} (hp : p < 20) (hM : sp_M tg g) (hl : ∀ s, s < 10 → lo s = nI (l s))
    (H : J (nI (p + 1)) co tg lo fl (upd lt p (sp_LT g l p 10)) tr) :
    ∀ n i x, i ≤ 10 → 10 - i < n → x = sp_LT g l p i → wX_findLeaderTargets_12 post J (nI p) co tg lo fl lt tr n x (nI i) := by
  refine loop_i (fun n i x => wX_findLeaderTargets_12 post J (nI p) co tg lo fl lt tr n x (nI i)) (fun i x => x = sp_LT g l p i) 10 ?_ ?_
  · intro n x h
    refine pk_le 10 10 (fun _ => ⟨vp_in_nI hp (by omega), ?_⟩) (fun z => absurd z (by omega))
    rw [nI_clamp (show p < 2 ^ 31 by omega), h]
    exact nm_e (nm_r (nI_1 p) H)
  · intro n i x hi h k
    refine pk_le 10 i (fun z => absurd z (by omega)) (fun _ => ⟨vp_in_nI hp (by omega), ?_⟩)
    rw [nI_clamp (show p < 2 ^ 31 by omega), nI_clamp (show i < 2 ^ 31 by omega), sp_bit _ (show i < 32 by omega), ← hM p i hp hi, hl i hi]
    refine br_c (fun z => nm_r (nI_1 i) (k _ ?_)) (fun z => ⟨vp_in_nI hi (by omega), nm_e (nm_r (nI_1 i) (k _ ?_))⟩)
    · rw [h, sp_LT_t z]
    · rw [h, sp_LT_f z]
theorem xf_2 {post : SX → Prop} {co tg lo fl tr g lt0 : Nat → Int32} {l : Nat → Nat} (hM : sp_M tg g) (hl : ∀ s, s < 10 → lo s = nI (l s))
    (H : ∀ lt, (∀ p, p < 20 → lt p = sp_LT g l p 10) → post (co, tg, lo, fl, lt, tr)) :
    ∀ n i lt, i ≤ 20 → 20 - i < n → sp_P 20 i lt (fun p => sp_LT g l p 10) lt0 → wX_findLeaderTargets_2 post n (nI i) co tg lo fl lt tr := by
  refine loop_i (fun n i lt => wX_findLeaderTargets_2 post n (nI i) co tg lo fl lt tr) (fun i lt => sp_P 20 i lt (fun p => sp_LT g l p 10) lt0) 20 ?_ ?_
  · intro n lt h
    exact pk_le 20 20 (fun _ => H lt (sp_Pe h)) (fun z => absurd z (by omega))
  · intro n i lt hi h k
    exact pk_le 20 i (fun z => absurd z (by omega)) (fun _ => ⟨11, xf_12 hi hM hl (k _ (sp_Pu h rfl)) 11 0 0 (by omega) (by omega) rfl⟩)
theorem xf_m {post : SX → Prop} {co tg lo fl lt tr g : Nat → Int32} {l : Nat → Nat} (hM : sp_M tg g) (hl : ∀ s, s < 10 → lo s = nI (l s))
    (H : ∀ lt', (∀ p, p < 20 → lt' p = sp_LT g l p 10) → post (co, tg, lo, fl, lt', tr)) :
    wpX_findLeaderTargets post (co, tg, lo, fl, lt, tr) := ⟨21, xf_2 (lt0 := lt) hM hl H 21 0 lt (by omega) (by omega) (sp_P0 20 lt _)⟩
theorem xs_a {post : Int32 → Prop} {co tg lo fl lt tr g : Nat → Int32} {R : Nat → Nat → Prop} (hE : sp_E R) (hl : ∀ s, s < 10 → lo s = nI (sp_ld R s)) (hlt : ∀ p, p < 20 → lt p = sp_LT g (sp_ld R) p 10) {s t : Nat} (hs : s < 10) (ht : t < 10)
    (h1 : sp_F g R s t → post 1) (h0 : ¬ sp_F g R s t → post 0) : wpX_staysAlike post (co, tg, lo, fl, lt, tr) (nI s) (nI t) := by
  have b1 := sp_ld_lt R hs
  have b2 := sp_ld_lt R ht
  have e := sp_F_iff (g := g) hE hs ht
  unfold wpX_staysAlike
  dsimp only
  rw [sp_ix3, sp_ix3, nI_clamp (show s < 2 ^ 31 by omega), nI_clamp (show t < 2 ^ 31 by omega), nI_clamp (show 10 + s < 2 ^ 31 by omega), nI_clamp (show 10 + t < 2 ^ 31 by omega), hl s hs, hl t ht, hlt s (by omega), hlt t (by omega), hlt (10 + s) (by omega), hlt (10 + t) (by omega), nI_eq (show sp_ld R s < 2 ^ 31 by omega) (show sp_ld R t < 2 ^ 31 by omega)]
  refine ⟨vp_in_nI hs (by omega), vp_in_nI ht (by omega), br_c (fun y1 => ⟨vp_in_nI (by omega) (by omega), vp_in_nI (by omega) (by omega), br_c (fun y2 => ⟨vp_in_nI (by omega) (by omega), vp_in_nI (by omega) (by omega), br_c (fun y3 => h1 (e.mpr ⟨y1, y2, y3⟩)) (fun y3 => h0 (fun z => y3 (e.mp z).2.2))⟩) (fun y2 => h0 (fun z => y2 (e.mp z).2.1))⟩) (fun y1 => h0 (fun z => y1 (e.mp z).1))⟩
theorem xs_10 {post : SX → Prop} {J : Int32 → (Nat → Int32) → (Nat → Int32) → (Nat → Int32) → (Nat → Int32) → (Nat → Int32) → (Nat → Int32) → Prop} {co tg lo fl lt tr g : Nat → Int32} {R : Nat → Nat → Prop} (hE : sp_E R) (hl : ∀ s, s < 10 → lo s = nI (sp_ld R s)) (hlt : ∀ p, p < 20 → lt p = sp_LT g (sp_ld R) p 10) {s : Nat} (hs : s < 10)
    (H : J (nI (s + 1)) co tg lo (upd fl s (nI (sp_ld (sp_F g R) s))) lt tr) :
    ∀ d i, i + d = s → (∀ j, j < i → ¬ sp_F g R j s) → ∀ n, d < n → wX_splitBySteps_10 post J (nI s) co tg lo fl lt tr n (nI i) := by
  intro d
  induction d with
  | zero =>
    intro i hi h n hn
    obtain ⟨m, rfl⟩ : ∃ m, n = m + 1 := ⟨n - 1, by omega⟩
    have e : sp_ld (sp_F g R) s = i := sp_ld_eq (by omega) (Or.inl (by omega)) h
    refine pk_le s i (fun _ => ⟨vp_in_nI hs (by omega), ?_⟩) (fun z => absurd z (by omega))
    rw [nI_clamp (show s < 2 ^ 31 by omega), ← e]
    exact nm_e (nm_r (nI_1 s) H)
  | succ d ih =>
    intro i hi h n hn
    obtain ⟨m, rfl⟩ : ∃ m, n = m + 1 := ⟨n - 1, by omega⟩
    refine pk_le s i (fun z => absurd z (by omega)) (fun _ => xs_a hE hl hlt (show i < 10 by omega) hs (fun z => br_f (by decide) ⟨vp_in_nI hs (by omega), ?_⟩) (fun z => br_t rfl (nm_r (nI_1 i) (ih (i + 1) (by omega) (fun j hj => ?_) m (by omega)))))
    · have e : sp_ld (sp_F g R) s = i := sp_ld_eq (by omega) (Or.inr z) h
      rw [nI_clamp (show s < 2 ^ 31 by omega), ← e]
      exact nm_e (nm_r (nI_1 s) H)
    · by_cases y : j = i
      · subst y
        exact z
      · exact h j (by omega)
theorem xs_2 {post : SX → Prop} {co tg lo lt tr g fl0 : Nat → Int32} {R : Nat → Nat → Prop} (hE : sp_E R) (hl : ∀ s, s < 10 → lo s = nI (sp_ld R s)) (hlt : ∀ p, p < 20 → lt p = sp_LT g (sp_ld R) p 10)
    (H : ∀ fl, (∀ s, s < 10 → fl s = nI (sp_ld (sp_F g R) s)) → post (co, tg, lo, fl, lt, tr)) :
    ∀ n i fl, i ≤ 10 → 10 - i < n → sp_P 10 i fl (fun s => nI (sp_ld (sp_F g R) s)) fl0 → wX_splitBySteps_2 post n (nI i) co tg lo fl lt tr := by
  refine loop_i (fun n i fl => wX_splitBySteps_2 post n (nI i) co tg lo fl lt tr) (fun i fl => sp_P 10 i fl (fun s => nI (sp_ld (sp_F g R) s)) fl0) 10 ?_ ?_
  · intro n fl h
    exact pk_le 10 10 (fun _ => H fl (sp_Pe h)) (fun z => absurd z (by omega))
  · intro n i fl hi h k
    exact pk_le 10 i (fun z => absurd z (by omega)) (fun _ => ⟨11, xs_10 hE hl hlt hi (k _ (sp_Pu h rfl)) i 0 (by omega) (fun j hj => absurd hj (Nat.not_lt_zero j)) 11 (by omega)⟩)
theorem xs_m {post : SX → Prop} {co tg lo fl lt tr g : Nat → Int32} {R : Nat → Nat → Prop} (hE : sp_E R) (hl : ∀ s, s < 10 → lo s = nI (sp_ld R s)) (hlt : ∀ p, p < 20 → lt p = sp_LT g (sp_ld R) p 10)
    (H : ∀ fl', (∀ s, s < 10 → fl' s = nI (sp_ld (sp_F g R) s)) → post (co, tg, lo, fl', lt, tr)) :
    wpX_splitBySteps post (co, tg, lo, fl, lt, tr) := ⟨11, xs_2 (fl0 := fl) hE hl hlt H 11 0 fl (by omega) (by omega) (sp_P0 10 fl _)⟩
theorem xt_6 {post : SX → Prop} {co tg g : Nat → Int32} (hM : sp_M tg g)
    (H : ∀ lo fl lt tr, (∀ s, s < 10 → lo s = nI (sp_ld (sp_A co g 10) s)) → (∀ p, p < 20 → lt p = sp_LT g (sp_ld (sp_A co g 9)) p 10) → (∀ q, q < 100 → tr q = sp_T co g q 11) → post (co, tg, lo, fl, lt, tr)) :
    ∀ d j lo fl lt tr, j + d = 10 → (∀ s, s < 10 → lo s = nI (sp_ld (sp_A co g j) s)) → (j = 0 ∨ ∀ p, p < 20 → lt p = sp_LT g (sp_ld (sp_A co g (j - 1))) p 10) → (∀ q, q < 100 → tr q = sp_T co g q (j + 1)) → wX_settle_6 post (d + 1) (nI (j + 1)) co tg lo fl lt tr := by
  intro d
  induction d with
  | zero =>
    intro j lo fl lt tr hj hl ht hT
    have e : j = 10 := by omega
    subst e
    refine pk_lt 10 11 (fun _ => H lo fl lt tr hl ?_ hT) (fun z => absurd z (by omega))
    rcases ht with z | z
    · omega
    · exact z
  | succ d ih =>
    intro j lo fl lt tr hj hl ht hT
    refine pk_lt 10 (j + 1) (fun z => absurd z (by omega)) (fun _ => ?_)
    refine xf_m (g := g) (l := sp_ld (sp_A co g j)) hM hl (fun lt' hlt => ?_)
    refine xs_m (g := g) (R := sp_A co g j) (sp_A_E co g j) hl hlt (fun fl' hfl => ?_)
    refine xa_k (c := co) (g := g) (k := j + 1) hfl hT (fun lo' tr' hlo htr => ?_)
    exact nm_r (nI_1 (j + 1)) (ih (j + 1) lo' fl' lt' tr' (by omega) hlo (Or.inr hlt) htr)
theorem xt_m {post : SX → Prop} {co tg lo fl lt tr g : Nat → Int32} (hM : sp_M tg g)
    (H : ∀ lo fl lt tr, (∀ s, s < 10 → lo s = nI (sp_ld (sp_A co g 10) s)) → (∀ p, p < 20 → lt p = sp_LT g (sp_ld (sp_A co g 9)) p 10) → (∀ q, q < 100 → tr q = sp_T co g q 11) → post (co, tg, lo, fl, lt, tr)) :
    wpX_settle post (co, tg, lo, fl, lt, tr) := by
  unfold wpX_settle
  dsimp only
  refine xc_m (g := g) (fun lo' fl' tr' h1 h2 => ?_)
  exact ⟨11, xt_6 hM H 10 0 lo' fl' lt tr' (by omega) h1 (Or.inl rfl) h2⟩
theorem xt_K {post : SX → Prop} {co tg lo fl lt tr g : Nat → Int32} {K : Nat} (hK : K ≤ 9) (hst : sp_st co g K) (hM : sp_M tg g)
    (H : ∀ lo fl lt tr, (∀ s, s < 10 → lo s = nI (sp_ld (sp_A co g K) s)) → (∀ p, p < 20 → lt p = sp_LT g (sp_ld (sp_A co g K)) p 10) → (∀ q, q < 100 → tr q = sp_T co g q 11) → post (co, tg, lo, fl, lt, tr)) :
    wpX_settle post (co, tg, lo, fl, lt, tr) := by
  refine xt_m hM (fun lo' fl' lt' tr' h1 h2 h3 => H lo' fl' lt' tr' (fun s hs => ?_) (fun p hp => ?_) h3)
  · rw [h1 s hs, sp_ld_S (sp_st_up hst 10 (by omega)) hs]
  · rw [h2 p hp]
    exact sp_LT_congr p 10 (fun t ht => sp_ld_S (sp_st_up hst 9 (by omega)) ht)
