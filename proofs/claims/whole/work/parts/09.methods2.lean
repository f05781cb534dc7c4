theorem xz_m {post : Int32 → Prop} (x : Int32) (H : post (sp_sz x 10)) : wpX_sizeOf post x := by
  refine loop_0 (fun n i y => wX_sizeOf_4 post x n y (nI i)) (fun i y => y = sp_sz x i) 10 0 rfl ?_ ?_
  · intro n y h
    rw [h]
    exact pk_le 10 10 (fun _ => H) (fun z => absurd z (by omega))
  · intro n i y hi h k
    rw [h]
    exact pk_le 10 i (fun z => absurd z (by omega)) (fun _ => nm_e (nm_r (nI_1 i) (k _ rfl)))
theorem xm_colours {post : Int32 → Prop} {c a l f t r : Nat → Int32} (H : post (sp_sz (sp_seen c 10) 10)) : wpX_colours post (c, a, l, f, t, r) := by
  refine loop_0 (fun n i x => wX_colours_4 post c a l f t r n x (nI i)) (fun i x => x = sp_seen c i) 10 0 rfl ?_ ?_
  · intro n x h
    rw [h]
    exact pk_le 10 10 (fun _ => xz_m _ H) (fun z => absurd z (by omega))
  · intro n i x hi h k
    rw [h]
    refine pk_le 10 i (fun z => absurd z (by omega)) (fun _ => ⟨vp_in_nI hi (by omega), ?_⟩)
    rw [nI_clamp (show i < 2 ^ 31 by omega)]
    exact nm_e (nm_r (nI_1 i) (k _ rfl))
theorem ym_colours {post : Int32 → Prop} {c g n m : Nat → Int32} (hC : sp_C c) (H : post (sp_sz (sp_seen c 10) 10)) : wpY_colours post (c, g, n, m) := by
  refine loop_0 (fun k i x => wY_colours_4 post c g n m k x (nI i)) (fun i x => x = sp_seen c i) 10 0 rfl ?_ ?_
  · intro k x h
    obtain ⟨v, hv, e⟩ := sp_seen_lt hC 10 (by omega)
    rw [e, sp_sz16 v hv] at H
    rw [h, e]
    exact pk_le 10 10 (fun _ => H) (fun z => absurd z (by omega))
  · intro k i x hi h kk
    rw [h]
    refine pk_le 10 i (fun z => absurd z (by omega)) (fun _ => ⟨vp_in_nI hi (by omega), ?_⟩)
    rw [nI_clamp (show i < 2 ^ 31 by omega)]
    exact nm_e (nm_r (nI_1 i) (kk _ rfl))
def sp_red (g : Nat → Int32) (l : Nat → Nat) : Nat → Int32
  | 0 => 0
  | p + 1 => sp_red g l p + sp_sz (sp_LT g l p 10) 10
theorem xm_reduce {post : Int32 → SX → Prop} {c a l f t r g : Nat → Int32} {K : Nat} (hK : K ≤ 9) (hst : sp_st c g K) (hM : sp_M a g)
    (H : ∀ a' l f t r, (∀ p, p < 20 → a' p = sp_LT g (sp_ld (sp_A c g K)) p 10) → post (sp_red g (sp_ld (sp_A c g K)) 20) (c, a', l, f, t, r)) : wpX_reduce post (c, a, l, f, t, r) := by
  unfold wpX_reduce
  dsimp only
  refine xt_K hK hst hM (fun lo fl lt tr h1 h2 h3 => ?_)
  refine loop_0 (σ := Int32 × (Nat → Int32)) (fun n i y => wX_reduce_8 post n y.1 (nI i) c y.2 lo fl lt tr) (fun i y => y.1 = sp_red g (sp_ld (sp_A c g K)) i ∧ sp_P 20 i y.2 (fun p => sp_LT g (sp_ld (sp_A c g K)) p 10) a) 20 (0, a) ⟨rfl, sp_P0 20 a _⟩ ?_ ?_
  · intro n y h
    obtain ⟨x, b⟩ := y
    obtain ⟨e, h⟩ := h
    have e : x = sp_red g (sp_ld (sp_A c g K)) 20 := e
    subst e
    exact pk_le 20 20 (fun _ => H b lo fl lt tr (sp_Pe h)) (fun z => absurd z (by omega))
  · intro n i y hi h k
    obtain ⟨x, b⟩ := y
    obtain ⟨e, h⟩ := h
    have e : x = sp_red g (sp_ld (sp_A c g K)) i := e
    have h : sp_P 20 i b (fun p => sp_LT g (sp_ld (sp_A c g K)) p 10) a := h
    subst e
    refine pk_le 20 i (fun z => absurd z (by omega)) (fun _ => ⟨vp_in_nI hi (by omega), vp_in_nI hi (by omega), ?_⟩)
    rw [nI_clamp (show i < 2 ^ 31 by omega), h2 i hi]
    refine nm_e ⟨vp_in_nI hi (by omega), ?_⟩
    rw [pk_us]
    exact xz_m _ (nm_e (nm_r (nI_1 i) (k (_, _) ⟨rfl, sp_Pu h rfl⟩)))
theorem sp_v_vb {x : Int32} {t : Nat} (ht : t < 10) (h : ¬ (x >>> (nI t &&& 31)) &&& 1 = 0) : vp_nar .boolean 1 = sp_v (bt x t) := by
  rw [sp_bit x (show t < 32 by omega)] at h
  cases e : bt x t
  · rw [e] at h
    exact absurd rfl h
  · rfl
theorem sp_v_vb0 {x : Int32} {t : Nat} (ht : t < 10) (h : (x >>> (nI t &&& 31)) &&& 1 = 0) : vp_nar .boolean 0 = sp_v (bt x t) := by
  rw [sp_bit x (show t < 32 by omega)] at h
  rw [h]
  rfl
theorem ye_62 {post : Int32 → SY → Prop} {J : Int32 → Int32 → (Nat → Int32) → (Nat → Int32) → (Nat → Int32) → (Nat → Int32) → Prop} {c nw af nx od : Nat → Int32} {p : Nat} (hp : p < 20) {x0 x3 : Int32}
    (hn : ∀ t, t < 10 → nx (p * 10 + t) = sp_v (bt x3 t))
    (H : ∀ g', sp_P 200 (p * 10 + 10) g' nx od → J (x0 + sp_sz x3 10) (nI (p + 1)) c g' nw af) :
    ∀ n i (y : Int32 × (Nat → Int32)), i ≤ 10 → 10 - i < n → (y.1 = x0 + sp_sz x3 i ∧ sp_P 200 (p * 10 + i) y.2 nx od) → wY_reduce_62 post J (nI p) x3 n y.1 (nI i) c y.2 nw af := by
  refine loop_i (σ := Int32 × (Nat → Int32)) (fun n i y => wY_reduce_62 post J (nI p) x3 n y.1 (nI i) c y.2 nw af) (fun i y => y.1 = x0 + sp_sz x3 i ∧ sp_P 200 (p * 10 + i) y.2 nx od) 10 ?_ ?_
  · intro n y h
    obtain ⟨x, b⟩ := y
    obtain ⟨e, h⟩ := h
    have e : x = x0 + sp_sz x3 10 := e
    subst e
    exact pk_le 10 10 (fun _ => nm_r (nI_1 p) (H b h)) (fun z => absurd z (by omega))
  · intro n i y hi h k
    obtain ⟨x, b⟩ := y
    obtain ⟨e, h⟩ := h
    have e : x = x0 + sp_sz x3 i := e
    have h : sp_P 200 (p * 10 + i) b nx od := h
    have key : ∀ z, vp_nar .boolean z = sp_v (bt x3 i) → wY_reduce_94 post J (wY_reduce_62 post J (nI p) x3 n) x (nI p) x3 (nI i) z (nI p * 10 + nI i) c b nw af := by
      intro z hz
      unfold wY_reduce_94
      rw [sp_ix p i, nI_clamp (show p * 10 + i < 2 ^ 31 by omega), hz]
      refine ⟨vp_in_nI (by omega) (by omega), nm_e (nm_e (nm_r (nI_1 i) (k (_, _) ⟨?_, sp_Pu h (hn i hi).symm⟩)))⟩
      show x + _ = x0 + (sp_sz x3 i + _)
      rw [e, Int32.add_assoc]
    exact pk_le 10 i (fun z => absurd z (by omega)) (fun _ => br_c (fun z => key 0 (sp_v_vb0 hi z)) (fun z => key 1 (sp_v_vb hi z)))
theorem ye_20 {post : Int32 → SY → Prop} {J : Int32 → Int32 → (Nat → Int32) → (Nat → Int32) → (Nat → Int32) → (Nat → Int32) → Prop} {c nw af g g' : Nat → Int32} {R : Nat → Nat → Prop} (hE : sp_E R) (hR : sp_Rep nw R) {p : Nat} (hp : p < 20) {x1 : Int32}
    (hg : ∀ t, t < 10 → g' (p * 10 + t) = g (p * 10 + t))
    (H : ∃ n, wY_reduce_62 post J (nI p) (sp_LT g (sp_ld R) p 10) n x1 (nI 0) c g' nw af) :
    ∀ n i x, i ≤ 10 → 10 - i < n → x = sp_LT g (sp_ld R) p i → wY_reduce_20 post J x1 (nI p) c g' nw af n x (nI i) := by
  refine loop_i (fun n i x => wY_reduce_20 post J x1 (nI p) c g' nw af n x (nI i)) (fun i x => x = sp_LT g (sp_ld R) p i) 10 ?_ ?_
  · intro n x h
    rw [h]
    exact pk_le 10 10 (fun _ => H) (fun z => absurd z (by omega))
  · intro n i x hi h k
    rw [h]
    refine pk_le 10 i (fun z => absurd z (by omega)) (fun _ => ?_)
    rw [sp_ix p i, nI_clamp (show p * 10 + i < 2 ^ 31 by omega), hg i hi]
    exact ⟨vp_in_nI (by omega) (by omega), br_c (fun z => nm_r (nI_1 i) (k _ (sp_LT_t z).symm)) (fun z => yl_m hE hR hi (nm_e (nm_r (nI_1 i) (k _ (sp_LT_f z).symm))))⟩
theorem ym_reduce {post : Int32 → SY → Prop} {c g n m : Nat → Int32} {K : Nat} (hK : K ≤ 9) (hst : sp_st c g K) (hm : ∀ j, j < K → ¬ sp_st c g j)
    (H : ∀ g' n m, (∀ p t, p < 20 → t < 10 → g' (p * 10 + t) = sp_v (bt (sp_LT g (sp_ld (sp_A c g K)) p 10) t)) → post (sp_red g (sp_ld (sp_A c g K)) 20) (c, g', n, m)) : wpY_reduce post (c, g, n, m) := by
  unfold wpY_reduce
  dsimp only
  refine yt_m hK hst hm (fun nw af hR => ?_)
  refine loop_0 (σ := Int32 × (Nat → Int32)) (fun n i y => wY_reduce_9 post n y.1 (nI i) c y.2 nw af) (fun i y => y.1 = sp_red g (sp_ld (sp_A c g K)) i ∧ sp_P 200 (i * 10) y.2 (fun q => sp_v (bt (sp_LT g (sp_ld (sp_A c g K)) (q / 10) 10) (q % 10))) g) 20 (0, g) ⟨rfl, sp_P0 200 g _⟩ ?_ ?_
  · intro n y h
    obtain ⟨x, b⟩ := y
    obtain ⟨e, h⟩ := h
    have e : x = sp_red g (sp_ld (sp_A c g K)) 20 := e
    subst e
    refine pk_le 20 20 (fun _ => H b nw af (fun p t hp ht => ?_)) (fun z => absurd z (by omega))
    have h' := sp_Pe (sp_Pc h (show 20 * 10 = 200 by omega)) (p * 10 + t) (by omega)
    have h' : b (p * 10 + t) = sp_v (bt (sp_LT g (sp_ld (sp_A c g K)) ((p * 10 + t) / 10) 10) ((p * 10 + t) % 10)) := h'
    rw [show (p * 10 + t) / 10 = p by omega, show (p * 10 + t) % 10 = t by omega] at h'
    exact h'
  · intro n i y hi h k
    obtain ⟨x, b⟩ := y
    obtain ⟨e, h⟩ := h
    have e : x = sp_red g (sp_ld (sp_A c g K)) i := e
    have h : sp_P 200 (i * 10) b (fun q => sp_v (bt (sp_LT g (sp_ld (sp_A c g K)) (q / 10) 10) (q % 10))) g := h
    subst e
    refine pk_le 20 i (fun z => absurd z (by omega)) (fun _ => ⟨11, ye_20 (g := g) (sp_A_E c g K) hR hi (fun t ht => ?_) ⟨11, ?_⟩ 11 0 0 (by omega) (by omega) rfl⟩)
    · exact (h _ (by omega)).trans (if_neg (by omega))
    · refine ye_62 hi (fun t ht => ?_) (fun g' h' => k (_, g') ⟨rfl, sp_Pc h' (by omega)⟩) 11 0 (_, b) (by omega) (by omega) ⟨(Int32.add_zero _).symm, sp_Pc h (by omega)⟩
      show sp_v (bt (sp_LT g (sp_ld (sp_A c g K)) ((i * 10 + t) / 10) 10) ((i * 10 + t) % 10)) = _
      rw [show (i * 10 + t) / 10 = i by omega, show (i * 10 + t) % 10 = t by omega]
theorem sp_m2le : ∀ m, m < 100 → (-2 : Int32) ≤ nI m := by decide +kernel
theorem xm_rounds {post : Int32 → SX → Prop} {c a l f t r g : Nat → Int32} {K : Nat} (hK : K ≤ 9) (hst : sp_st c g K) (hm : ∀ j, j < K → ¬ sp_st c g j) (hM : sp_M a g)
    (H : ∀ l f t r, post (nI K) (c, a, l, f, t, r)) : wpX_rounds post (c, a, l, f, t, r) := by
  unfold wpX_rounds
  dsimp only
  refine xt_K hK hst hM (fun lo fl lt tr h1 h2 h3 => ?_)
  refine loop_0 (fun n i x => wX_rounds_8 post c a lo fl lt tr n x (nI i)) (fun i x => ∃ v, v ≤ K ∧ x = nI v ∧ ∀ q, q < i → ∀ j, j < 100 → sp_T c g q 11 = nI j → j ≤ v) 100 0 ⟨0, by omega, rfl, fun q hq => absurd hq (Nat.not_lt_zero q)⟩ ?_ ?_
  · intro n x h
    obtain ⟨v, hv, e, hq⟩ := h
    have e2 : v = K := by
      rcases sp_K_hit hm with z | ⟨p, hp, hN, hA⟩
      · omega
      · have := hq p hp K (by omega) (sp_T_some hN hA 11 (by omega) (by omega))
        omega
    rw [e, e2]
    exact pk_le 100 100 (fun _ => H lo fl lt tr) (fun z => absurd z (by omega))
  · intro n i x hi h k
    obtain ⟨v, hv, e, hq⟩ := h
    subst e
    refine pk_le 100 i (fun z => absurd z (by omega)) (fun _ => ⟨vp_in_nI hi (by omega), ?_⟩)
    rw [nI_clamp (show i < 2 ^ 31 by omega), h3 i hi]
    rcases sp_T_cases hK hst hi with ⟨e, _⟩ | ⟨j, hj, e, _, _⟩
    · rw [e]
      refine br_t (sp_m2le v (by omega)) (nm_r (nI_1 i) (k _ ⟨v, hv, rfl, fun q hq' j hj ej => ?_⟩))
      by_cases y : q = i
      · subst y
        exact absurd (ej.symm.trans e) (sp_n2 j hj)
      · exact hq q (by omega) j hj ej
    · rw [e]
      refine pk_le j v (fun z => nm_r (nI_1 i) (k _ ⟨v, hv, rfl, fun q hq' j' hj' ej => ?_⟩)) (fun z => ⟨vp_in_nI hi (by omega), nm_e (nm_r (nI_1 i) (k _ ⟨j, hj, rfl, fun q hq' j' hj' ej => ?_⟩))⟩)
      · by_cases y : q = i
        · subst y
          have := (nI_eq (by omega) (by omega)).mp (ej.symm.trans e)
          omega
        · exact hq q (by omega) j' hj' ej
      · by_cases y : q = i
        · subst y
          have := (nI_eq (by omega) (by omega)).mp (ej.symm.trans e)
          omega
        · have := hq q (by omega) j' hj' ej
          omega
theorem ym_rounds {post : Int32 → SY → Prop} {c g n m : Nat → Int32} {K : Nat} (hK : K ≤ 9) (hst : sp_st c g K) (hm : ∀ j, j < K → ¬ sp_st c g j)
    (H : ∀ n m, post (nI K) (c, g, n, m)) : wpY_rounds post (c, g, n, m) := by
  unfold wpY_rounds
  dsimp only
  exact yt_m hK hst hm (fun nw af _ => H nw af)
theorem sp_M_set {a g : Nat → Int32} (h : sp_M a g) {p t : Nat} (ht : t < 10) : sp_M (upd a p (a p ||| ((1 : Int32) <<< (nI t &&& 31)))) (upd g (p * 10 + t) 1) := by
  intro p' t' hp' ht'
  by_cases e : p' = p
  · subst e
    rw [pk_us, sp_or _ ht (show t' < 32 by omega)]
    by_cases e2 : t' = t
    · subst e2
      rw [pk_us, decide_eq_true rfl, Bool.or_true]
      rfl
    · rw [pk_un (by omega), decide_eq_false (by omega), Bool.or_false]
      exact h p' t' hp' ht'
  · rw [pk_un e, pk_un (by omega)]
    exact h p' t' hp' ht'
theorem sp_M_clr {a g : Nat → Int32} (h : sp_M a g) {p t : Nat} (ht : t < 10) : sp_M (upd a p (a p &&& (((1 : Int32) <<< (nI t &&& 31)) ^^^ (-1)))) (upd g (p * 10 + t) 0) := by
  intro p' t' hp' ht'
  by_cases e : p' = p
  · subst e
    rw [pk_us, sp_clr _ ht (show t' < 32 by omega)]
    by_cases e2 : t' = t
    · subst e2
      rw [pk_us, decide_eq_true rfl, Bool.not_true, Bool.and_false]
      rfl
    · rw [pk_un (by omega), decide_eq_false (by omega), Bool.not_false, Bool.and_true]
      exact h p' t' hp' ht'
  · rw [pk_un e, pk_un (by omega)]
    exact h p' t' hp' ht'
theorem sp_C_set {c : Nat → Int32} (h : sp_C c) {s j : Nat} (hj : j < 4) : sp_C (upd c s (nI j)) := by
  intro s' hs'
  by_cases e : s' = s
  · subst e
    exact ⟨j, hj, pk_us⟩
  · rw [pk_un e]
    exact h s' hs'
