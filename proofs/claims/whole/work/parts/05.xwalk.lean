theorem xa_36 {post : SX → Prop} {J : Int32 → (Nat → Int32) → (Nat → Int32) → (Nat → Int32) → (Nat → Int32) → (Nat → Int32) → (Nat → Int32) → Prop} {r : Int32} {s : Nat} (hs : s < 10) {co tg lo fl lt nw od : Nat → Int32}
    (hn : ∀ q, q < 100 → nw q = if od q = -2 ∧ ¬ lo (q / 10) = lo (q % 10) then r else od q)
    (H : ∀ tr, sp_P 100 (s * 10 + 10) tr nw od → J (nI (s + 1)) co tg lo fl lt tr) :
    ∀ n i tr, i ≤ 10 → 10 - i < n → sp_P 100 (s * 10 + i) tr nw od → wX_adoptSplit_36 post J r (nI s) n (nI i) co tg lo fl lt tr := by
  refine loop_i (fun n i tr => wX_adoptSplit_36 post J r (nI s) n (nI i) co tg lo fl lt tr) (fun i tr => sp_P 100 (s * 10 + i) tr nw od) 10 ?_ ?_
  · intro n tr h
    exact pk_le 10 10 (fun _ => nm_r (nI_1 s) (H tr h)) (fun z => absurd z (by omega))
  · intro n i tr hi h k
    have ho := sp_Po h (show s * 10 + i < 100 by omega)
    have hq := hn (s * 10 + i) (by omega)
    rw [show (s * 10 + i) / 10 = s by omega, show (s * 10 + i) % 10 = i by omega] at hq
    refine pk_le 10 i (fun z => absurd z (by omega)) (fun _ => nm_r (sp_ix s i) ⟨vp_in_nI (by omega) (by omega), ?_⟩)
    rw [nI_clamp (show s * 10 + i < 2 ^ 31 by omega), nI_clamp (show s < 2 ^ 31 by omega), nI_clamp (show i < 2 ^ 31 by omega), ho]
    refine br_c (fun z => ⟨vp_in_nI hs (by omega), vp_in_nI hi (by omega), br_c (fun y => ?_) (fun y => ?_)⟩) (fun z => ?_)
    · have h2 : od (s * 10 + i) = nw (s * 10 + i) := by
        rw [hq]
        exact (if_neg (fun w => w.2 y)).symm
      exact nm_r (nI_1 i) (k tr (sp_Pk h h2))
    · have h2 : r = nw (s * 10 + i) := by
        rw [hq]
        exact (if_pos ⟨z, y⟩).symm
      exact ⟨vp_in_nI (by omega) (by omega), nm_e (nm_r (nI_1 i) (k _ (sp_Pu h h2)))⟩
    · have h2 : od (s * 10 + i) = nw (s * 10 + i) := by
        rw [hq]
        exact (if_neg (fun w => z w.1)).symm
      exact nm_r (nI_1 i) (k tr (sp_Pk h h2))
theorem xa_28 {post : SX → Prop} {r : Int32} {co tg lo fl lt nw od : Nat → Int32}
    (hn : ∀ q, q < 100 → nw q = if od q = -2 ∧ ¬ lo (q / 10) = lo (q % 10) then r else od q)
    (H : ∀ tr, (∀ q, q < 100 → tr q = nw q) → post (co, tg, lo, fl, lt, tr)) :
    ∀ n i tr, i ≤ 10 → 10 - i < n → sp_P 100 (i * 10) tr nw od → wX_adoptSplit_28 post r n (nI i) co tg lo fl lt tr := by
  refine loop_i (fun n i tr => wX_adoptSplit_28 post r n (nI i) co tg lo fl lt tr) (fun i tr => sp_P 100 (i * 10) tr nw od) 10 ?_ ?_
  · intro n tr h
    exact pk_le 10 10 (fun _ => H tr (sp_Pe (sp_Pc h (show 10 * 10 = 100 by omega)))) (fun z => absurd z (by omega))
  · intro n i tr hi h k
    exact pk_le 10 i (fun z => absurd z (by omega)) (fun _ => ⟨11, xa_36 hi hn (fun tr' h' => k tr' (sp_Pc h' (by omega))) 11 0 tr (by omega) (by omega) (sp_Pc h (by omega))⟩)
theorem xa_2 {post : SX → Prop} {r : Int32} {co tg fl lt tr lo0 : Nat → Int32}
    (H : ∀ lo, (∀ q, q < 10 → lo q = fl q) → ∃ n, wX_adoptSplit_28 post r n (nI 0) co tg lo fl lt tr) :
    ∀ n i lo, i ≤ 10 → 10 - i < n → sp_P 10 i lo fl lo0 → wX_adoptSplit_2 post r n (nI i) co tg lo fl lt tr := by
  refine loop_i (fun n i lo => wX_adoptSplit_2 post r n (nI i) co tg lo fl lt tr) (fun i lo => sp_P 10 i lo fl lo0) 10 ?_ ?_
  · intro n lo h
    exact pk_le 10 10 (fun _ => H lo (sp_Pe h)) (fun z => absurd z (by omega))
  · intro n i lo hi h k
    refine pk_le 10 i (fun z => absurd z (by omega)) (fun _ => ⟨vp_in_nI hi (by omega), vp_in_nI hi (by omega), ?_⟩)
    rw [nI_clamp (show i < 2 ^ 31 by omega)]
    exact nm_e (nm_r (nI_1 i) (k _ (sp_Pu h rfl)))
theorem xa_m {post : SX → Prop} {r : Int32} {co tg lo fl lt tr : Nat → Int32}
    (H : ∀ lo' tr', (∀ q, q < 10 → lo' q = fl q) → (∀ q, q < 100 → tr' q = if tr q = -2 ∧ ¬ fl (q / 10) = fl (q % 10) then r else tr q) → post (co, tg, lo', fl, lt, tr')) :
    wpX_adoptSplit post (co, tg, lo, fl, lt, tr) r := by
  refine ⟨11, xa_2 (lo0 := lo) (fun lo' h => ?_) 11 0 lo (by omega) (by omega) (sp_P0 10 lo fl)⟩
  refine ⟨11, xa_28 (od := tr) (nw := fun q => if tr q = -2 ∧ ¬ lo' (q / 10) = lo' (q % 10) then r else tr q) (fun q _ => rfl) (fun tr' h' => H lo' tr' h (fun q hq => ?_)) 11 0 tr (by omega) (by omega) (sp_P0 100 tr _)⟩
  refine (h' q hq).trans ?_
  show (if tr q = -2 ∧ ¬ lo' (q / 10) = lo' (q % 10) then r else tr q) = _
  rw [h (q / 10) (by omega), h (q % 10) (by omega)]
theorem xa_k {post : SX → Prop} {co tg lo fl lt tr c g : Nat → Int32} {k : Nat}
    (hf : ∀ s, s < 10 → fl s = nI (sp_ld (sp_A c g k) s)) (ht : ∀ q, q < 100 → tr q = sp_T c g q k)
    (H : ∀ lo' tr', (∀ s, s < 10 → lo' s = nI (sp_ld (sp_A c g k) s)) → (∀ q, q < 100 → tr' q = sp_T c g q (k + 1)) → post (co, tg, lo', fl, lt, tr')) :
    wpX_adoptSplit post (co, tg, lo, fl, lt, tr) (nI k) := by
  refine xa_m (fun lo' tr' h1 h2 => H lo' tr' (fun s hs => (h1 s hs).trans (hf s hs)) (fun q hq => (h2 q hq).trans ?_))
  have a1 : q / 10 < 10 := by omega
  have a2 : q % 10 < 10 := by omega
  have b1 := sp_ld_lt (sp_A c g k) a1
  have b2 := sp_ld_lt (sp_A c g k) a2
  have e : fl (q / 10) = fl (q % 10) ↔ sp_A c g k (q / 10) (q % 10) := by
    rw [hf _ a1, hf _ a2, nI_eq (by omega) (by omega), sp_ld_iff (sp_A_E c g k) a1 a2]
  rw [ht q hq]
  by_cases z : sp_T c g q k = -2 ∧ ¬ sp_A c g k (q / 10) (q % 10)
  · rw [sp_T_s z]
    exact if_pos ⟨z.1, fun w => z.2 (e.mp w)⟩
  · rw [sp_T_k z]
    exact if_neg (fun w => z ⟨w.1, fun y => w.2 (e.mpr y)⟩)
theorem xc_32 {post : SX → Prop} {J : Int32 → (Nat → Int32) → (Nat → Int32) → (Nat → Int32) → (Nat → Int32) → (Nat → Int32) → (Nat → Int32) → Prop} {co tg lo fl lt tr g : Nat → Int32} {s : Nat} (hs : s < 10)
    (H : J (nI (s + 1)) co tg lo (upd fl s (nI (sp_ld (sp_A co g 0) s))) lt tr) :
    ∀ d i, i + d = s → (∀ j, j < i → ¬ sp_A co g 0 j s) → ∀ n, d < n → wX_splitByColour_32 post J (nI s) co tg lo fl lt tr n (nI i) := by
  intro d
  induction d with
  | zero =>
    intro i hi h n hn
    obtain ⟨m, rfl⟩ : ∃ m, n = m + 1 := ⟨n - 1, by omega⟩
    have e : sp_ld (sp_A co g 0) s = i := sp_ld_eq (by omega) (Or.inl (by omega)) h
    refine pk_le s i (fun _ => ⟨vp_in_nI hs (by omega), ?_⟩) (fun z => absurd z (by omega))
    rw [nI_clamp (show s < 2 ^ 31 by omega), ← e]
    exact nm_e (nm_r (nI_1 s) H)
  | succ d ih =>
    intro i hi h n hn
    obtain ⟨m, rfl⟩ : ∃ m, n = m + 1 := ⟨n - 1, by omega⟩
    refine pk_le s i (fun z => absurd z (by omega)) (fun _ => ⟨vp_in_nI (by omega) (by omega), vp_in_nI hs (by omega), ?_⟩)
    rw [nI_clamp (show i < 2 ^ 31 by omega), nI_clamp (show s < 2 ^ 31 by omega)]
    refine br_c (fun z => ⟨vp_in_nI hs (by omega), ?_⟩) (fun z => nm_r (nI_1 i) (ih (i + 1) (by omega) (fun j hj => ?_) m (by omega)))
    · have e : sp_ld (sp_A co g 0) s = i := sp_ld_eq (by omega) (Or.inr z) h
      rw [← e]
      exact nm_e (nm_r (nI_1 s) H)
    · by_cases y : j = i
      · subst y
        exact z
      · exact h j (by omega)
theorem xc_24 {post : SX → Prop} {co tg lo lt tr fl0 g : Nat → Int32}
    (H : ∀ fl, (∀ s, s < 10 → fl s = nI (sp_ld (sp_A co g 0) s)) → wpX_adoptSplit post (co, tg, lo, fl, lt, tr) (nI 0)) :
    ∀ n i fl, i ≤ 10 → 10 - i < n → sp_P 10 i fl (fun s => nI (sp_ld (sp_A co g 0) s)) fl0 → wX_splitByColour_24 post n (nI i) co tg lo fl lt tr := by
  refine loop_i (fun n i fl => wX_splitByColour_24 post n (nI i) co tg lo fl lt tr) (fun i fl => sp_P 10 i fl (fun s => nI (sp_ld (sp_A co g 0) s)) fl0) 10 ?_ ?_
  · intro n fl h
    exact pk_le 10 10 (fun _ => H fl (sp_Pe h)) (fun z => absurd z (by omega))
  · intro n i fl hi h k
    exact pk_le 10 i (fun z => absurd z (by omega)) (fun _ => ⟨11, xc_32 (g := g) hi (k _ (sp_Pu h rfl)) i 0 (by omega) (fun j hj => absurd hj (Nat.not_lt_zero j)) 11 (by omega)⟩)
theorem xc_2 {post : SX → Prop} {co tg lo fl lt tr0 : Nat → Int32}
    (H : ∀ tr, (∀ q, q < 100 → tr q = -2) → ∃ n, wX_splitByColour_24 post n (nI 0) co tg lo fl lt tr) :
    ∀ n i tr, i ≤ 100 → 100 - i < n → sp_P 100 i tr (fun _ => -2) tr0 → wX_splitByColour_2 post n (nI i) co tg lo fl lt tr := by
  refine loop_i (fun n i tr => wX_splitByColour_2 post n (nI i) co tg lo fl lt tr) (fun i tr => sp_P 100 i tr (fun _ => -2) tr0) 100 ?_ ?_
  · intro n tr h
    exact pk_le 100 100 (fun _ => H tr (sp_Pe h)) (fun z => absurd z (by omega))
  · intro n i tr hi h k
    refine pk_le 100 i (fun z => absurd z (by omega)) (fun _ => ⟨vp_in_nI hi (by omega), ?_⟩)
    rw [nI_clamp (show i < 2 ^ 31 by omega)]
    exact nm_e (nm_r (nI_1 i) (k _ (sp_Pu h rfl)))
theorem xc_m {post : SX → Prop} {co tg lo fl lt tr g : Nat → Int32}
    (H : ∀ lo' fl' tr', (∀ s, s < 10 → lo' s = nI (sp_ld (sp_A co g 0) s)) → (∀ q, q < 100 → tr' q = sp_T co g q 1) → post (co, tg, lo', fl', lt, tr')) :
    wpX_splitByColour post (co, tg, lo, fl, lt, tr) := by
  refine ⟨101, xc_2 (tr0 := tr) (fun tr' h => ?_) 101 0 tr (by omega) (by omega) (sp_P0 100 tr _)⟩
  refine ⟨11, xc_24 (g := g) (fl0 := fl) (fun fl' hf => ?_) 11 0 fl (by omega) (by omega) (sp_P0 10 fl _)⟩
  exact xa_k (c := co) (g := g) hf (fun q hq => h q hq) (fun lo' tr'' h1 h2 => H lo' fl' tr'' h1 h2)
