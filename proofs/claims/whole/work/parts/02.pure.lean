def sp_Ans (g : Nat → Int32) (R : Nat → Nat → Prop) (p q : Nat) : Prop := ∀ a, a < 10 → ¬ g (p * 10 + a) = 0 → ∃ b, b < 10 ∧ ¬ g (q * 10 + b) = 0 ∧ R a b
def sp_F (g : Nat → Int32) (R : Nat → Nat → Prop) (s t : Nat) : Prop := R s t ∧ sp_Ans g R s t ∧ sp_Ans g R t s ∧ sp_Ans g R (10 + s) (10 + t) ∧ sp_Ans g R (10 + t) (10 + s)
def sp_A (c g : Nat → Int32) : Nat → Nat → Nat → Prop
  | 0 => fun s t => c s = c t
  | k + 1 => sp_F g (sp_A c g k)
def sp_E (R : Nat → Nat → Prop) : Prop := (∀ s, s < 10 → R s s) ∧ (∀ s t, s < 10 → t < 10 → R s t → R t s) ∧ (∀ s t u, s < 10 → t < 10 → u < 10 → R s t → R t u → R s u)
theorem sp_Ans_refl {g : Nat → Int32} {R : Nat → Nat → Prop} (h : sp_E R) (p : Nat) : sp_Ans g R p p := fun a ha hg => ⟨a, ha, hg, h.1 a ha⟩
theorem sp_Ans_trans {g : Nat → Int32} {R : Nat → Nat → Prop} (h : sp_E R) {p q r : Nat} (h1 : sp_Ans g R p q) (h2 : sp_Ans g R q r) : sp_Ans g R p r := by
  intro a ha hg
  obtain ⟨b, hb, hgb, hab⟩ := h1 a ha hg
  obtain ⟨d, hd, hgd, hbd⟩ := h2 b hb hgb
  exact ⟨d, hd, hgd, h.2.2 a b d ha hb hd hab hbd⟩
theorem sp_F_E {g : Nat → Int32} {R : Nat → Nat → Prop} (h : sp_E R) : sp_E (sp_F g R) := by
  refine ⟨fun s hs => ⟨h.1 s hs, sp_Ans_refl h _, sp_Ans_refl h _, sp_Ans_refl h _, sp_Ans_refl h _⟩, ?_, ?_⟩
  · intro s t hs ht ⟨h1, h2, h3, h4, h5⟩
    exact ⟨h.2.1 s t hs ht h1, h3, h2, h5, h4⟩
  · intro s t u hs ht hu ⟨h1, h2, h3, h4, h5⟩ ⟨k1, k2, k3, k4, k5⟩
    exact ⟨h.2.2 s t u hs ht hu h1 k1, sp_Ans_trans h h2 k2, sp_Ans_trans h k3 h3, sp_Ans_trans h h4 k4, sp_Ans_trans h k5 h5⟩
theorem sp_A_E (c g : Nat → Int32) : ∀ k, sp_E (sp_A c g k) := by
  intro k
  induction k with
  | zero => exact ⟨fun _ _ => rfl, fun _ _ _ _ h => Eq.symm h, fun _ _ _ _ _ _ h1 h2 => Eq.trans h1 h2⟩
  | succ k ih => exact sp_F_E ih
def sp_S (R R' : Nat → Nat → Prop) : Prop := ∀ s t, s < 10 → t < 10 → (R s t ↔ R' s t)
theorem sp_S_refl (R : Nat → Nat → Prop) : sp_S R R := fun _ _ _ _ => Iff.rfl
theorem sp_S_symm {R R' : Nat → Nat → Prop} (h : sp_S R R') : sp_S R' R := fun s t hs ht => (h s t hs ht).symm
theorem sp_S_trans {R R' R'' : Nat → Nat → Prop} (h : sp_S R R') (h' : sp_S R' R'') : sp_S R R'' := fun s t hs ht => (h s t hs ht).trans (h' s t hs ht)
theorem sp_Ans_S {g : Nat → Int32} {R R' : Nat → Nat → Prop} (h : sp_S R R') {p q : Nat} (h1 : sp_Ans g R p q) : sp_Ans g R' p q := by
  intro a ha hg
  obtain ⟨b, hb, hgb, hab⟩ := h1 a ha hg
  exact ⟨b, hb, hgb, (h a b ha hb).mp hab⟩
theorem sp_F_S {g : Nat → Int32} {R R' : Nat → Nat → Prop} (h : sp_S R R') : sp_S (sp_F g R) (sp_F g R') := by
  intro s t hs ht
  constructor
  · intro ⟨h1, h2, h3, h4, h5⟩
    exact ⟨(h s t hs ht).mp h1, sp_Ans_S h h2, sp_Ans_S h h3, sp_Ans_S h h4, sp_Ans_S h h5⟩
  · intro ⟨h1, h2, h3, h4, h5⟩
    exact ⟨(h s t hs ht).mpr h1, sp_Ans_S (sp_S_symm h) h2, sp_Ans_S (sp_S_symm h) h3, sp_Ans_S (sp_S_symm h) h4, sp_Ans_S (sp_S_symm h) h5⟩
theorem sp_A_le (c g : Nat → Int32) {j k : Nat} (h : j ≤ k) {s t : Nat} (hA : sp_A c g k s t) : sp_A c g j s t := by
  induction k with
  | zero =>
    have e : j = 0 := by omega
    subst e
    exact hA
  | succ k ih =>
    by_cases e : j = k + 1
    · subst e
      exact hA
    · exact ih (by omega) hA.1
def sp_st (c g : Nat → Int32) (k : Nat) : Prop := ∀ s t, s < 10 → t < 10 → sp_A c g k s t → sp_A c g (k + 1) s t
theorem sp_st_S {c g : Nat → Int32} {k : Nat} (h : sp_st c g k) : sp_S (sp_A c g (k + 1)) (sp_A c g k) := fun s t hs ht => ⟨fun z => z.1, h s t hs ht⟩
theorem sp_st_up {c g : Nat → Int32} {k : Nat} (h : sp_st c g k) : ∀ m, k ≤ m → sp_S (sp_A c g m) (sp_A c g k) := by
  intro m
  induction m with
  | zero =>
    intro hk
    have e : k = 0 := by omega
    subst e
    exact sp_S_refl _
  | succ m ih =>
    intro hk
    by_cases e : k = m + 1
    · subst e
      exact sp_S_refl _
    · exact sp_S_trans (sp_F_S (ih (by omega))) (sp_st_S h)
noncomputable def sp_ld (R : Nat → Nat → Prop) (s : Nat) : Nat := Classical.epsilon (fun l => l ≤ s ∧ (l = s ∨ R l s) ∧ ∀ j, j < l → ¬ R j s)
theorem sp_ld_ex (R : Nat → Nat → Prop) (s : Nat) : ∃ l, l ≤ s ∧ (l = s ∨ R l s) ∧ ∀ j, j < l → ¬ R j s := by
  obtain ⟨l, h1, h2⟩ := pk_least (fun l => l = s ∨ R l s) ⟨s, Or.inl rfl⟩
  refine ⟨l, ?_, h1, fun j hj z => h2 j hj (Or.inr z)⟩
  by_cases e : l ≤ s
  · exact e
  · exact (h2 s (by omega) (Or.inl rfl)).elim
theorem sp_ld_sp (R : Nat → Nat → Prop) (s : Nat) : sp_ld R s ≤ s ∧ (sp_ld R s = s ∨ R (sp_ld R s) s) ∧ ∀ j, j < sp_ld R s → ¬ R j s := Classical.epsilon_spec (sp_ld_ex R s)
theorem sp_ld_eq {R : Nat → Nat → Prop} {s l : Nat} (h1 : l ≤ s) (h2 : l = s ∨ R l s) (h3 : ∀ j, j < l → ¬ R j s) : sp_ld R s = l := by
  obtain ⟨k1, k2, k3⟩ := sp_ld_sp R s
  rcases Nat.lt_trichotomy (sp_ld R s) l with z | z | z
  · rcases k2 with y | y
    · omega
    · exact absurd y (h3 _ z)
  · exact z
  · rcases h2 with y | y
    · omega
    · exact absurd y (k3 _ z)
theorem sp_ld_R {R : Nat → Nat → Prop} (h : sp_E R) {s : Nat} (hs : s < 10) : R (sp_ld R s) s := by
  rcases (sp_ld_sp R s).2.1 with z | z
  · rw [z]
    exact h.1 s hs
  · exact z
theorem sp_ld_lt (R : Nat → Nat → Prop) {s : Nat} (hs : s < 10) : sp_ld R s < 10 := Nat.lt_of_le_of_lt (sp_ld_sp R s).1 hs
theorem sp_ld_S {R R' : Nat → Nat → Prop} (h : sp_S R R') {s : Nat} (hs : s < 10) : sp_ld R s = sp_ld R' s := by
  obtain ⟨k1, k2, k3⟩ := sp_ld_sp R' s
  refine sp_ld_eq k1 ?_ ?_
  · rcases k2 with y | y
    · exact Or.inl y
    · exact Or.inr ((h _ s (by omega) hs).mpr y)
  · intro j hj z
    exact k3 j hj ((h j s (by omega) hs).mp z)
theorem sp_ld_iff {R : Nat → Nat → Prop} (h : sp_E R) {s t : Nat} (hs : s < 10) (ht : t < 10) : sp_ld R s = sp_ld R t ↔ R s t := by
  have a1 := sp_ld_R h hs
  have a2 := sp_ld_R h ht
  have b1 := sp_ld_lt R hs
  have b2 := sp_ld_lt R ht
  constructor
  · intro e
    rw [e] at a1
    exact h.2.2 s _ t hs b2 ht (h.2.1 _ s b2 hs a1) a2
  · intro z
    have c1 : R (sp_ld R s) t := h.2.2 _ s t b1 hs ht a1 z
    have c2 : R (sp_ld R t) s := h.2.2 _ t s b2 ht hs a2 (h.2.1 s t hs ht z)
    rcases Nat.lt_trichotomy (sp_ld R s) (sp_ld R t) with y | y | y
    · exact absurd c1 ((sp_ld_sp R t).2.2 _ y)
    · exact y
    · exact absurd c2 ((sp_ld_sp R s).2.2 _ y)
def sp_cnt (l : Nat → Nat) : Nat → Nat
  | 0 => 0
  | n + 1 => if l n = n then sp_cnt l n + 1 else sp_cnt l n
theorem sp_cnt_le (l : Nat → Nat) : ∀ n, sp_cnt l n ≤ n := by
  intro n
  induction n with
  | zero => exact Nat.le_refl 0
  | succ n ih =>
    rw [sp_cnt]
    split <;> omega
theorem sp_cnt_pos (l : Nat → Nat) (h : l 0 = 0) : ∀ n, 1 ≤ sp_cnt l (n + 1) := by
  intro n
  induction n with
  | zero =>
    rw [sp_cnt, if_pos h]
    omega
  | succ n ih =>
    rw [sp_cnt]
    split <;> omega
theorem sp_cnt_mono {l l' : Nat → Nat} {n : Nat} (h : ∀ s, s < n → l s = s → l' s = s) : sp_cnt l n ≤ sp_cnt l' n := by
  induction n with
  | zero => exact Nat.le_refl 0
  | succ n ih =>
    have h1 := ih (fun s hs => h s (by omega))
    have h2 := h n (by omega)
    rw [sp_cnt, sp_cnt]
    split
    · rename_i e
      rw [if_pos (h2 e)]
      omega
    · split <;> omega
theorem sp_cnt_strict {l l' : Nat → Nat} {n m : Nat} (h : ∀ s, s < n → l s = s → l' s = s) (hm : m < n) (h1 : ¬ l m = m) (h2 : l' m = m) : sp_cnt l n + 1 ≤ sp_cnt l' n := by
  induction n with
  | zero => omega
  | succ n ih =>
    rw [sp_cnt, sp_cnt]
    by_cases e : m = n
    · subst e
      have k := sp_cnt_mono (n := m) (fun s hs => h s (by omega))
      rw [if_neg h1, if_pos h2]
      omega
    · have k := ih (fun s hs => h s (by omega)) (by omega)
      have k2 := h n (by omega)
      split
      · rename_i z
        rw [if_pos (k2 z)]
        omega
      · split <;> omega
theorem sp_cnt_congr {l l' : Nat → Nat} {n : Nat} (h : ∀ s, s < n → l s = l' s) : sp_cnt l n = sp_cnt l' n := by
  induction n with
  | zero => rfl
  | succ n ih => rw [sp_cnt, sp_cnt, ih (fun s hs => h s (by omega)), h n (by omega)]
theorem sp_split {c g : Nat → Int32} {k : Nat} (h : ¬ sp_st c g k) : sp_cnt (sp_ld (sp_A c g k)) 10 + 1 ≤ sp_cnt (sp_ld (sp_A c g (k + 1))) 10 := by
  have hE := sp_A_E c g k
  have hE' := sp_A_E c g (k + 1)
  have hx : ∃ s t, s < 10 ∧ t < 10 ∧ sp_A c g k s t ∧ ¬ sp_A c g (k + 1) s t := by
    refine Classical.byContradiction (fun z => h ?_)
    intro s t hs ht hA
    refine Classical.byContradiction (fun y => z ⟨s, t, hs, ht, hA, y⟩)
  obtain ⟨s, t, hs, ht, hA, hB⟩ := hx
  have key : ∃ x, x < 10 ∧ ¬ sp_ld (sp_A c g (k + 1)) x = sp_ld (sp_A c g k) x := by
    by_cases e1 : sp_ld (sp_A c g (k + 1)) s = sp_ld (sp_A c g k) s
    · by_cases e2 : sp_ld (sp_A c g (k + 1)) t = sp_ld (sp_A c g k) t
      · exfalso
        apply hB
        rw [← sp_ld_iff hE' hs ht, e1, e2, sp_ld_iff hE hs ht]
        exact hA
      · exact ⟨t, ht, e2⟩
    · exact ⟨s, hs, e1⟩
  obtain ⟨x, hx, hne⟩ := key
  have hm := sp_ld_lt (sp_A c g (k + 1)) hx
  have r1 : sp_A c g (k + 1) (sp_ld (sp_A c g (k + 1)) x) x := sp_ld_R hE' hx
  have r2 : sp_A c g k (sp_ld (sp_A c g (k + 1)) x) x := r1.1
  have e1 := (sp_ld_iff hE' hm hx).mpr r1
  have e2 := (sp_ld_iff hE hm hx).mpr r2
  refine sp_cnt_strict (m := sp_ld (sp_A c g (k + 1)) x) ?_ hm ?_ e1
  · intro y hy e
    refine sp_ld_eq (Nat.le_refl _) (Or.inl rfl) ?_
    intro j hj z
    exact (sp_ld_sp (sp_A c g k) y).2.2 j (by omega) z.1
  · intro z
    exact hne (z.symm.trans e2)
theorem sp_grow {c g : Nat → Int32} : ∀ k, (∀ j, j < k → ¬ sp_st c g j) → k + 1 ≤ sp_cnt (sp_ld (sp_A c g k)) 10 := by
  intro k
  induction k with
  | zero =>
    intro _
    refine sp_cnt_pos _ ?_ 9
    have := (sp_ld_sp (sp_A c g 0) 0).1
    omega
  | succ k ih =>
    intro h
    have h1 := ih (fun j hj => h j (by omega))
    have h2 := sp_split (h k (by omega))
    omega
theorem sp_K (c g : Nat → Int32) : ∃ K, K ≤ 9 ∧ sp_st c g K ∧ ∀ j, j < K → ¬ sp_st c g j := by
  have h : ∃ K, sp_st c g K := by
    refine Classical.byContradiction (fun z => ?_)
    have h1 := sp_grow (c := c) (g := g) 10 (fun j _ y => z ⟨j, y⟩)
    have h2 := sp_cnt_le (sp_ld (sp_A c g 10)) 10
    omega
  obtain ⟨K, h1, h2⟩ := pk_least (sp_st c g) h
  refine ⟨K, ?_, h1, h2⟩
  have h3 := sp_grow K h2
  have h4 := sp_cnt_le (sp_ld (sp_A c g K)) 10
  omega
theorem sp_b1 : ∀ n, n < 10 → ∀ i, i < 32 → bt ((1 : Int32) <<< (nI n &&& 31)) i = decide (n = i) := by decide +kernel
def sp_LT (g : Nat → Int32) (l : Nat → Nat) (p : Nat) : Nat → Int32
  | 0 => 0
  | t + 1 => if g (p * 10 + t) = 0 then sp_LT g l p t else sp_LT g l p t ||| ((1 : Int32) <<< (nI (l t) &&& 31))
theorem sp_LT_bt {g : Nat → Int32} {l : Nat → Nat} (p : Nat) {i : Nat} (hi : i < 32) : ∀ n, (∀ t, t < n → l t < 10) → (bt (sp_LT g l p n) i = true ↔ ∃ t, t < n ∧ ¬ g (p * 10 + t) = 0 ∧ l t = i) := by
  intro n
  induction n with
  | zero =>
    intro _
    rw [sp_LT, b_0]
    constructor
    · intro z
      cases z
    · intro ⟨t, ht, _⟩
      omega
  | succ n ih =>
    intro hl
    have h1 := ih (fun t ht => hl t (by omega))
    rw [sp_LT]
    by_cases e : g (p * 10 + n) = 0
    · rw [if_pos e, h1]
      constructor
      · intro ⟨t, ht, hg, hi⟩
        exact ⟨t, by omega, hg, hi⟩
      · intro ⟨t, ht, hg, hi⟩
        by_cases y : t = n
        · subst y
          exact absurd e hg
        · exact ⟨t, by omega, hg, hi⟩
    · rw [if_neg e, b_or, sp_b1 _ (hl n (by omega)) i hi, Bool.or_eq_true, h1, decide_eq_true_eq]
      constructor
      · rintro (⟨t, ht, hg, hi⟩ | z)
        · exact ⟨t, by omega, hg, hi⟩
        · exact ⟨n, by omega, e, z⟩
      · intro ⟨t, ht, hg, hi⟩
        by_cases y : t = n
        · subst y
          exact Or.inr hi
        · exact Or.inl ⟨t, by omega, hg, hi⟩
theorem sp_LT_congr {g : Nat → Int32} {l l' : Nat → Nat} (p : Nat) : ∀ n, (∀ t, t < n → l t = l' t) → sp_LT g l p n = sp_LT g l' p n := by
  intro n
  induction n with
  | zero => exact fun _ => rfl
  | succ n ih =>
    intro h
    rw [sp_LT, sp_LT, ih (fun t ht => h t (by omega)), h n (by omega)]
theorem sp_LT_sub {g : Nat → Int32} {R : Nat → Nat → Prop} (hE : sp_E R) {p q : Nat} (e : sp_LT g (sp_ld R) p 10 = sp_LT g (sp_ld R) q 10) : sp_Ans g R p q := by
  intro a ha hg
  have hl : ∀ t, t < 10 → sp_ld R t < 10 := fun t ht => sp_ld_lt R ht
  have hi : sp_ld R a < 32 := by
    have := hl a ha
    omega
  have h1 := (sp_LT_bt (g := g) p hi 10 hl).mpr ⟨a, ha, hg, rfl⟩
  rw [e, sp_LT_bt (g := g) q hi 10 hl] at h1
  obtain ⟨b, hb, hgb, hab⟩ := h1
  exact ⟨b, hb, hgb, (sp_ld_iff hE ha hb).mp hab.symm⟩
theorem sp_LT_eq {g : Nat → Int32} {R : Nat → Nat → Prop} (hE : sp_E R) (p q : Nat) : sp_LT g (sp_ld R) p 10 = sp_LT g (sp_ld R) q 10 ↔ sp_Ans g R p q ∧ sp_Ans g R q p := by
  have hl : ∀ t, t < 10 → sp_ld R t < 10 := fun t ht => sp_ld_lt R ht
  constructor
  · intro e
    exact ⟨sp_LT_sub hE e, sp_LT_sub hE e.symm⟩
  · intro ⟨h1, h2⟩
    refine b_ext (fun i hi => ?_)
    rw [Bool.eq_iff_iff, sp_LT_bt p hi 10 hl, sp_LT_bt q hi 10 hl]
    constructor
    · intro ⟨a, ha, hg, e⟩
      obtain ⟨b, hb, hgb, hab⟩ := h1 a ha hg
      exact ⟨b, hb, hgb, by rw [← e, (sp_ld_iff hE ha hb).mpr hab]⟩
    · intro ⟨a, ha, hg, e⟩
      obtain ⟨b, hb, hgb, hab⟩ := h2 a ha hg
      exact ⟨b, hb, hgb, by rw [← e, (sp_ld_iff hE ha hb).mpr hab]⟩
theorem sp_F_iff {g : Nat → Int32} {R : Nat → Nat → Prop} (hE : sp_E R) {s t : Nat} (hs : s < 10) (ht : t < 10) : sp_F g R s t ↔ sp_ld R s = sp_ld R t ∧ sp_LT g (sp_ld R) s 10 = sp_LT g (sp_ld R) t 10 ∧ sp_LT g (sp_ld R) (10 + s) 10 = sp_LT g (sp_ld R) (10 + t) 10 := by
  rw [sp_ld_iff hE hs ht, sp_LT_eq hE, sp_LT_eq hE]
  constructor
  · intro ⟨h1, h2, h3, h4, h5⟩
    exact ⟨h1, ⟨h2, h3⟩, ⟨h4, h5⟩⟩
  · intro ⟨h1, ⟨h2, h3⟩, ⟨h4, h5⟩⟩
    exact ⟨h1, h2, h3, h4, h5⟩
