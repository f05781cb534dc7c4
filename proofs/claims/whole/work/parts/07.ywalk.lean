theorem yb_2 {post : SY → Prop} {c g af nw0 : Nat → Int32} (H : ∀ nw, sp_Rep nw (sp_A c g 0) → post (c, g, nw, af)) :
    ∀ n i nw, i ≤ 100 → 100 - i < n → sp_P 100 i nw (fun p => sp_B (sp_A c g 0 (p / 10) (p % 10))) nw0 → wY_begin_2 post n (nI i) c g nw af := by
  refine loop_i (fun n i nw => wY_begin_2 post n (nI i) c g nw af) (fun i nw => sp_P 100 i nw (fun p => sp_B (sp_A c g 0 (p / 10) (p % 10))) nw0) 100 ?_ ?_
  · intro n nw h
    exact pk_le 100 100 (fun _ => H nw (sp_Pe h)) (fun z => absurd z (by omega))
  · intro n i nw hi h k
    refine pk_le 100 i (fun z => absurd z (by omega)) (fun _ => ?_)
    rw [sp_r10 hi, sp_d10 hi, nI_clamp (show i / 10 < 2 ^ 31 by omega), nI_clamp (show i % 10 < 2 ^ 31 by omega), nI_clamp (show i < 2 ^ 31 by omega)]
    refine ⟨by decide, vp_in_nI (by omega) (by omega), by decide, vp_in_nI (by omega) (by omega), br_c (fun z => ⟨vp_in_nI hi (by omega), nm_e (nm_r (nI_1 i) (k _ (sp_Pu h ?_)))⟩) (fun z => ⟨vp_in_nI hi (by omega), nm_e (nm_r (nI_1 i) (k _ (sp_Pu h ?_)))⟩)⟩
    · exact sp_nar1.trans (sp_B_t (P := sp_A c g 0 (i / 10) (i % 10)) z).symm
    · exact sp_nar0.trans (sp_B_f (P := sp_A c g 0 (i / 10) (i % 10)) z).symm
theorem yb_m {post : SY → Prop} {c g nw af : Nat → Int32} (H : ∀ nw', sp_Rep nw' (sp_A c g 0) → post (c, g, nw', af)) : wpY_begin post (c, g, nw, af) :=
  ⟨101, yb_2 (nw0 := nw) H 101 0 nw (by omega) (by omega) (sp_P0 100 nw _)⟩
def sp_D (P : Prop) (Q : Nat → Prop) (i : Nat) : Prop := P ∨ ∃ b, b < i ∧ Q b
theorem sp_D_s {P : Prop} {Q : Nat → Prop} {i : Nat} : sp_D P Q (i + 1) ↔ sp_D P Q i ∨ Q i := by
  constructor
  · rintro (h | ⟨b, hb, hq⟩)
    · exact Or.inl (Or.inl h)
    · by_cases e : b = i
      · subst e
        exact Or.inr hq
      · exact Or.inl (Or.inr ⟨b, by omega, hq⟩)
  · rintro ((h | ⟨b, hb, hq⟩) | h)
    · exact Or.inl h
    · exact Or.inr ⟨b, by omega, hq⟩
    · exact Or.inr ⟨i, by omega, h⟩
theorem ya_40 {post : Int32 → Prop} {J : Int32 → Prop} {c g nw af : Nat → Int32} {R : Nat → Nat → Prop} (hR : sp_Rep nw R) {o s t a : Nat} (ho : o < 2) (ht : t < 10) (ha : a < 10) {P : Prop}
    (H1 : sp_D P (fun b => ¬ g ((o * 10 + t) * 10 + b) = 0 ∧ R a b) 10 → J (nI (a + 1))) (H0 : ¬ sp_D P (fun b => ¬ g ((o * 10 + t) * 10 + b) = 0 ∧ R a b) 10 → post 0) :
    ∀ n i x, i ≤ 10 → 10 - i < n → x = sp_B (sp_D P (fun b => ¬ g ((o * 10 + t) * 10 + b) = 0 ∧ R a b) i) → wY_answered_40 post J (nI o) (nI s) (nI t) (nI a) c g nw af n x (nI i) := by
  refine loop_i (fun n i x => wY_answered_40 post J (nI o) (nI s) (nI t) (nI a) c g nw af n x (nI i)) (fun i x => x = sp_B (sp_D P (fun b => ¬ g ((o * 10 + t) * 10 + b) = 0 ∧ R a b) i)) 10 ?_ ?_
  · intro n x h
    exact pk_le 10 10 (fun _ => br_c (fun z => H0 (sp_B_0.mp (h.symm.trans z))) (fun z => nm_r (nI_1 a) (H1 (Classical.byContradiction (fun w => z (h.trans (sp_B_f w))))))) (fun z => absurd z (by omega))
  · intro n i x hi h k
    refine pk_le 10 i (fun z => absurd z (by omega)) (fun _ => ?_)
    rw [sp_ix2 o t i, sp_ix a i, nI_clamp (show (o * 10 + t) * 10 + i < 2 ^ 31 by omega), nI_clamp (show a * 10 + i < 2 ^ 31 by omega), sp_Rep_at hR ha hi]
    refine br_c (fun z => ⟨vp_in_nI (by omega) (by omega), br_c (fun y => nm_r (nI_1 i) (k _ ?_)) (fun y => ⟨vp_in_nI (by omega) (by omega), br_c (fun w => nm_r (nI_1 i) (k _ ?_)) (fun w => nm_r (nI_1 i) (k _ ?_))⟩)⟩) (fun z => nm_r (nI_1 i) (k _ ?_))
    · have hd := sp_B_0.mp (h.symm.trans z)
      refine (sp_B_f (fun q => ?_)).symm
      rcases sp_D_s.mp q with q | q
      · exact hd q
      · exact q.1 y
    · have hd := sp_B_0.mp (h.symm.trans z)
      refine (sp_B_f (fun q => ?_)).symm
      rcases sp_D_s.mp q with q | q
      · exact hd q
      · exact sp_B_0.mp w q.2
    · exact (sp_B_t (sp_D_s.mpr (Or.inr ⟨y, Classical.byContradiction (fun q => w (sp_B_f q))⟩))).symm
    · exact (sp_B_t (sp_D_s.mpr (Or.inl (Classical.byContradiction (fun q => z (h.trans (sp_B_f q))))))).symm
theorem ya_3 {post : Int32 → Prop} {c g nw af : Nat → Int32} {R : Nat → Nat → Prop} (hR : sp_Rep nw R) {o s t : Nat} (ho : o < 2) (hs : s < 10) (ht : t < 10)
    (H1 : sp_Ans g R (o * 10 + s) (o * 10 + t) → post 1) (H0 : ¬ sp_Ans g R (o * 10 + s) (o * 10 + t) → post 0) :
    ∀ n i (_ : Unit), i ≤ 10 → 10 - i < n → (∀ a, a < i → ¬ g ((o * 10 + s) * 10 + a) = 0 → ∃ b, b < 10 ∧ ¬ g ((o * 10 + t) * 10 + b) = 0 ∧ R a b) → wY_answered_3 post (nI o) (nI s) (nI t) c g nw af n (nI i) := by
  refine loop_i (σ := Unit) (fun n i _ => wY_answered_3 post (nI o) (nI s) (nI t) c g nw af n (nI i)) (fun i _ => ∀ a, a < i → ¬ g ((o * 10 + s) * 10 + a) = 0 → ∃ b, b < 10 ∧ ¬ g ((o * 10 + t) * 10 + b) = 0 ∧ R a b) 10 ?_ ?_
  · intro n _ h
    exact pk_le 10 10 (fun _ => H1 h) (fun z => absurd z (by omega))
  · intro n i _ hi h k
    refine pk_le 10 i (fun z => absurd z (by omega)) (fun _ => ?_)
    rw [sp_ix2 o s i, nI_clamp (show (o * 10 + s) * 10 + i < 2 ^ 31 by omega)]
    have a1 : sp_D (g ((o * 10 + s) * 10 + i) = 0) (fun b => ¬ g ((o * 10 + t) * 10 + b) = 0 ∧ R i b) 10 → wY_answered_3 post (nI o) (nI s) (nI t) c g nw af n (nI (i + 1)) := by
      intro d
      refine k () (fun a ha hg => ?_)
      by_cases e : a = i
      · subst e
        rcases d with d | d
        · exact absurd d hg
        · exact d
      · exact h a (by omega) hg
    have a0 : ¬ sp_D (g ((o * 10 + s) * 10 + i) = 0) (fun b => ¬ g ((o * 10 + t) * 10 + b) = 0 ∧ R i b) 10 → post 0 := by
      intro d
      refine H0 (fun A => d ?_)
      by_cases e : g ((o * 10 + s) * 10 + i) = 0
      · exact Or.inl e
      · exact Or.inr (A i hi e)
    refine ⟨vp_in_nI (by omega) (by omega), br_c (fun z => ⟨11, ya_40 hR ho ht hi a1 a0 11 0 1 (by omega) (by omega) (sp_B_t (Or.inl z)).symm⟩) (fun z => ⟨11, ya_40 hR ho ht hi a1 a0 11 0 0 (by omega) (by omega) (sp_B_f ?_).symm⟩)⟩
    rintro (q | ⟨b, hb, _⟩)
    · exact z q
    · omega
theorem ya_m {post : Int32 → Prop} {c g nw af : Nat → Int32} {R : Nat → Nat → Prop} (hR : sp_Rep nw R) {o s t p q : Nat} (ho : o < 2) (hs : s < 10) (ht : t < 10) (ep : o * 10 + s = p) (eq : o * 10 + t = q)
    (H1 : sp_Ans g R p q → post 1) (H0 : ¬ sp_Ans g R p q → post 0) : wpY_answered post (c, g, nw, af) (nI o) (nI s) (nI t) := by
  subst ep eq
  exact ⟨11, ya_3 hR ho hs ht H1 H0 11 0 () (by omega) (by omega) (fun a ha => absurd ha (Nat.not_lt_zero a))⟩
theorem yr_84 {post : Int32 → SY → Prop} {J : Int32 → Int32 → (Nat → Int32) → (Nat → Int32) → (Nat → Int32) → (Nat → Int32) → Prop} {c g nw af : Nat → Int32} {R : Nat → Nat → Prop} (hR : sp_Rep nw R) {i : Nat} (hi : i < 100) {x z : Int32} (hz : z = sp_B (sp_F g R (i / 10) (i % 10)))
    (Hs : ¬ (R (i / 10) (i % 10) ∧ ¬ sp_F g R (i / 10) (i % 10)) → J x (nI (i + 1)) c g nw (upd af i z))
    (Hc : (R (i / 10) (i % 10) ∧ ¬ sp_F g R (i / 10) (i % 10)) → J 1 (nI (i + 1)) c g nw (upd af i z)) : wY_round_84 post J x (nI i) z (nI i) c g nw af := by
  unfold wY_round_84
  rw [nI_clamp (show i < 2 ^ 31 by omega)]
  have e : upd af i (vp_nar .boolean z) = upd af i z := by rw [hz, sp_B_v]
  refine ⟨vp_in_nI hi (by omega), nm_r e ⟨vp_in_nI hi (by omega), vp_in_nI hi (by omega), ?_⟩⟩
  rw [pk_us, hR i hi]
  refine br_c (fun y => nm_r (nI_1 i) (Hs (fun w => ?_))) (fun y => nm_r (nI_1 i) (Hc ?_))
  · rw [hz, sp_B_f w.2, sp_B_t w.1] at y
    exact absurd y (by decide)
  · refine ⟨Classical.byContradiction (fun w => y ?_), fun w => y ?_⟩
    · rw [hz, sp_B_f w, sp_B_f (fun q => w q.1)]
    · rw [hz, sp_B_t w, sp_B_t w.1]
theorem yr_110 {post : Int32 → SY → Prop} {c g af nw0 : Nat → Int32} {R' : Nat → Nat → Prop} (ha : ∀ q, q < 100 → af q = sp_B (R' (q / 10) (q % 10))) {P : Prop}
    (H : ∀ nw, sp_Rep nw R' → post (sp_B P) (c, g, nw, af)) :
    ∀ n i nw, i ≤ 100 → 100 - i < n → sp_P 100 i nw (fun q => sp_B (R' (q / 10) (q % 10))) nw0 → wY_round_110 post (sp_B P) n (nI i) c g nw af := by
  refine loop_i (fun n i nw => wY_round_110 post (sp_B P) n (nI i) c g nw af) (fun i nw => sp_P 100 i nw (fun q => sp_B (R' (q / 10) (q % 10))) nw0) 100 ?_ ?_
  · intro n nw h
    exact pk_le 100 100 (fun _ => ⟨sp_B_n P, H nw (sp_Pe h)⟩) (fun z => absurd z (by omega))
  · intro n i nw hi h k
    refine pk_le 100 i (fun z => absurd z (by omega)) (fun _ => ⟨vp_in_nI hi (by omega), vp_in_nI hi (by omega), ?_⟩)
    rw [nI_clamp (show i < 2 ^ 31 by omega), ha i hi, sp_B_v]
    exact nm_e (nm_r (nI_1 i) (k _ (sp_Pu h rfl)))
theorem yr_4 {post : Int32 → SY → Prop} {c g nw af0 : Nat → Int32} {R : Nat → Nat → Prop} (hR : sp_Rep nw R)
    (H : ∀ nw' af', sp_Rep nw' (sp_F g R) → post (sp_B (sp_D False (fun q => R (q / 10) (q % 10) ∧ ¬ sp_F g R (q / 10) (q % 10)) 100)) (c, g, nw', af')) :
    ∀ n i (y : Int32 × (Nat → Int32)), i ≤ 100 → 100 - i < n → (y.1 = sp_B (sp_D False (fun q => R (q / 10) (q % 10) ∧ ¬ sp_F g R (q / 10) (q % 10)) i) ∧ sp_P 100 i y.2 (fun q => sp_B (sp_F g R (q / 10) (q % 10))) af0) → wY_round_4 post n y.1 (nI i) c g nw y.2 := by
  refine loop_i (σ := Int32 × (Nat → Int32)) (fun n i y => wY_round_4 post n y.1 (nI i) c g nw y.2) (fun i y => y.1 = sp_B (sp_D False (fun q => R (q / 10) (q % 10) ∧ ¬ sp_F g R (q / 10) (q % 10)) i) ∧ sp_P 100 i y.2 (fun q => sp_B (sp_F g R (q / 10) (q % 10))) af0) 100 ?_ ?_
  · intro n y h
    obtain ⟨x, af⟩ := y
    obtain ⟨h1, h2⟩ := h
    have h1 : x = sp_B (sp_D False (fun q => R (q / 10) (q % 10) ∧ ¬ sp_F g R (q / 10) (q % 10)) 100) := h1
    subst h1
    exact pk_le 100 100 (fun _ => ⟨101, yr_110 (nw0 := nw) (R' := sp_F g R) (sp_Pe h2) (fun nw' h' => H nw' af h') 101 0 nw (by omega) (by omega) (sp_P0 100 nw _)⟩) (fun z => absurd z (by omega))
  · intro n i y hi h k
    obtain ⟨x, af⟩ := y
    obtain ⟨h1, h2⟩ := h
    have h1 : x = sp_B (sp_D False (fun q => R (q / 10) (q % 10) ∧ ¬ sp_F g R (q / 10) (q % 10)) i) := h1
    have h2 : sp_P 100 i af (fun q => sp_B (sp_F g R (q / 10) (q % 10))) af0 := h2
    have a1 : i / 10 < 10 := by omega
    have a2 : i % 10 < 10 := by omega
    have key : ∀ z, z = sp_B (sp_F g R (i / 10) (i % 10)) → wY_round_84 post (wY_round_4 post n) x (nI i) z (nI i) c g nw af := by
      intro z hz
      refine yr_84 hR hi hz (fun w => k (x, upd af i z) ⟨?_, sp_Pu h2 hz⟩) (fun w => k (1, upd af i z) ⟨?_, sp_Pu h2 hz⟩)
      · show x = _
        rw [h1]
        refine sp_B_c ⟨fun q => sp_D_s.mpr (Or.inl q), fun q => ?_⟩
        rcases sp_D_s.mp q with q | q
        · exact q
        · exact absurd q w
      · exact (sp_B_t (sp_D_s.mpr (Or.inr w))).symm
    have k0 : ¬ sp_F g R (i / 10) (i % 10) → wY_round_83 post (wY_round_4 post n) x (nI i) (nI i) c g nw af := fun w => key 0 (sp_B_f w).symm
    refine pk_le 100 i (fun z => absurd z (by omega)) (fun _ => ⟨by decide, nm_r (sp_d10 hi) ⟨by decide, nm_r (sp_r10 hi) ⟨vp_in_nI hi (by omega), ?_⟩⟩⟩)
    rw [nI_clamp (show i < 2 ^ 31 by omega), hR i hi]
    refine br_c (fun z => k0 (fun w => sp_B_0.mp z w.1)) (fun z => ?_)
    refine ya_m (o := 0) hR (by omega) a1 a2 (show 0 * 10 + i / 10 = i / 10 by omega) (show 0 * 10 + i % 10 = i % 10 by omega) (fun w1 => br_f (by decide) ?_) (fun w => br_t rfl (k0 (fun q => w q.2.1)))
    refine ya_m (o := 0) hR (by omega) a2 a1 (show 0 * 10 + i % 10 = i % 10 by omega) (show 0 * 10 + i / 10 = i / 10 by omega) (fun w2 => br_f (by decide) ?_) (fun w => br_t rfl (k0 (fun q => w q.2.2.1)))
    refine ya_m (o := 1) hR (by omega) a1 a2 (show 1 * 10 + i / 10 = 10 + i / 10 by omega) (show 1 * 10 + i % 10 = 10 + i % 10 by omega) (fun w3 => br_f (by decide) ?_) (fun w => br_t rfl (k0 (fun q => w q.2.2.2.1)))
    refine ya_m (o := 1) hR (by omega) a2 a1 (show 1 * 10 + i % 10 = 10 + i % 10 by omega) (show 1 * 10 + i / 10 = 10 + i / 10 by omega) (fun w4 => br_f (by decide) ?_) (fun w => br_t rfl (k0 (fun q => w q.2.2.2.2)))
    exact key 1 (sp_B_t ⟨Classical.byContradiction (fun q => z (sp_B_f q)), w1, w2, w3, w4⟩).symm
theorem yr_m {post : Int32 → SY → Prop} {c g nw af : Nat → Int32} {R : Nat → Nat → Prop} (hR : sp_Rep nw R)
    (H : ∀ nw' af', sp_Rep nw' (sp_F g R) → post (sp_B (sp_D False (fun q => R (q / 10) (q % 10) ∧ ¬ sp_F g R (q / 10) (q % 10)) 100)) (c, g, nw', af')) : wpY_round post (c, g, nw, af) := by
  refine ⟨101, yr_4 (af0 := af) hR H 101 0 (0, af) (by omega) (by omega) ⟨?_, sp_P0 100 af _⟩⟩
  refine (sp_B_f ?_).symm
  rintro (q | ⟨b, hb, _⟩)
  · exact q
  · omega
theorem yr_k {post : Int32 → SY → Prop} {c g nw af : Nat → Int32} {k : Nat} (hR : sp_Rep nw (sp_A c g k))
    (H1 : ¬ sp_st c g k → ∀ nw' af', sp_Rep nw' (sp_A c g (k + 1)) → post 1 (c, g, nw', af'))
    (H0 : sp_st c g k → ∀ nw' af', sp_Rep nw' (sp_A c g (k + 1)) → post 0 (c, g, nw', af')) : wpY_round post (c, g, nw, af) := by
  refine yr_m hR (fun nw' af' h => ?_)
  by_cases e : sp_st c g k
  · rw [sp_B_f ?_]
    · exact H0 e nw' af' h
    · rintro (q | ⟨b, hb, q1, q2⟩)
      · exact q
      · exact q2 (e _ _ (by omega) (by omega) q1)
  · rw [sp_B_t ?_]
    · exact H1 e nw' af' h
    · refine Classical.byContradiction (fun w => e (fun s t hs ht hA => Classical.byContradiction (fun q => w (Or.inr ⟨s * 10 + t, by omega, ?_⟩))))
      show sp_A c g k ((s * 10 + t) / 10) ((s * 10 + t) % 10) ∧ ¬ sp_F g (sp_A c g k) ((s * 10 + t) / 10) ((s * 10 + t) % 10)
      rw [show (s * 10 + t) / 10 = s by omega, show (s * 10 + t) % 10 = t by omega]
      exact ⟨hA, q⟩
theorem yt_6 {post : Int32 → SY → Prop} {c g : Nat → Int32} {K : Nat} (hK : K ≤ 9) (hst : sp_st c g K) (hm : ∀ j, j < K → ¬ sp_st c g j)
    (H : ∀ nw af, sp_Rep nw (sp_A c g K) → post (nI K) (c, g, nw, af)) :
    ∀ d k nw af, k + d = K → sp_Rep nw (sp_A c g k) → wY_settle_6 post (d + 1) (nI k) c g nw af := by
  intro d
  induction d with
  | zero =>
    intro k nw af hk hR
    have e : k = K := by omega
    subst e
    exact pk_le 100 k (fun z => absurd z (by omega)) (fun _ => yr_k hR (fun z => absurd hst z) (fun _ nw' af' h => br_t rfl (H nw' af' (sp_Rep_S h (sp_st_S hst)))))
  | succ d ih =>
    intro k nw af hk hR
    exact pk_le 100 k (fun z => absurd z (by omega)) (fun _ => yr_k hR (fun _ nw' af' h => br_f (by decide) (nm_r (nI_1 k) (ih (k + 1) nw' af' (by omega) h))) (fun z => absurd z (hm k (by omega))))
theorem yt_m {post : Int32 → SY → Prop} {c g nw af : Nat → Int32} {K : Nat} (hK : K ≤ 9) (hst : sp_st c g K) (hm : ∀ j, j < K → ¬ sp_st c g j)
    (H : ∀ nw' af', sp_Rep nw' (sp_A c g K) → post (nI K) (c, g, nw', af')) : wpY_settle post (c, g, nw, af) := by
  unfold wpY_settle
  dsimp only
  exact yb_m (fun nw' h => ⟨K + 1, yt_6 hK hst hm H K 0 nw' af (by omega) h⟩)
theorem yl_2 {post : Int32 → Prop} {c g nw af : Nat → Int32} {R : Nat → Nat → Prop} (hE : sp_E R) (hR : sp_Rep nw R) {s : Nat} (hs : s < 10) (H : post (nI (sp_ld R s))) :
    ∀ d i, i + d = s → (∀ j, j < i → ¬ R j s) → ∀ n, d < n → wY_leaderNow_2 post (nI s) c g nw af n (nI i) := by
  intro d
  induction d with
  | zero =>
    intro i hi h n hn
    obtain ⟨m, rfl⟩ : ∃ m, n = m + 1 := ⟨n - 1, by omega⟩
    have e : sp_ld R s = i := sp_ld_eq (by omega) (Or.inl (by omega)) h
    rw [e] at H
    exact pk_le s i (fun _ => H) (fun z => absurd z (by omega))
  | succ d ih =>
    intro i hi h n hn
    obtain ⟨m, rfl⟩ : ∃ m, n = m + 1 := ⟨n - 1, by omega⟩
    refine pk_le s i (fun z => absurd z (by omega)) (fun _ => ?_)
    rw [sp_ix s i, nI_clamp (show s * 10 + i < 2 ^ 31 by omega), sp_Rep_at hR hs (show i < 10 by omega)]
    refine ⟨vp_in_nI (by omega) (by omega), br_c (fun z => nm_r (nI_1 i) (ih (i + 1) (by omega) (fun j hj => ?_) m (by omega))) (fun z => ?_)⟩
    · by_cases y : j = i
      · subst y
        exact fun w => sp_B_0.mp z (hE.2.1 _ _ (by omega) hs w)
      · exact h j (by omega)
    · have r : R s i := Classical.byContradiction (fun q => z (sp_B_f q))
      have e : sp_ld R s = i := sp_ld_eq (by omega) (Or.inr (hE.2.1 _ _ hs (by omega) r)) h
      rw [e] at H
      exact H
theorem yl_m {post : Int32 → Prop} {c g nw af : Nat → Int32} {R : Nat → Nat → Prop} (hE : sp_E R) (hR : sp_Rep nw R) {s : Nat} (hs : s < 10) (H : post (nI (sp_ld R s))) : wpY_leaderNow post (c, g, nw, af) (nI s) :=
  ⟨s + 1, yl_2 hE hR hs H s 0 (by omega) (fun j hj => absurd hj (Nat.not_lt_zero j)) (s + 1) (by omega)⟩
