section
def bt (x : Int32) (i : Nat) : Bool := x.toBitVec.getLsbD i
theorem b_ext {x y : Int32} (h : ∀ i, i < 32 → bt x i = bt y i) : x = y := Int32.toBitVec_inj.mp (BitVec.eq_of_getLsbD_eq (fun i hi => h i hi))
theorem b_or (x y : Int32) (i : Nat) : bt (x ||| y) i = (bt x i || bt y i) := by unfold bt; rw [Int32.toBitVec_or, BitVec.getLsbD_or]
theorem b_and (x y : Int32) (i : Nat) : bt (x &&& y) i = (bt x i && bt y i) := by unfold bt; rw [Int32.toBitVec_and, BitVec.getLsbD_and]
theorem b_xor (x y : Int32) (i : Nat) : bt (x ^^^ y) i = (bt x i ^^ bt y i) := by unfold bt; rw [Int32.toBitVec_xor, BitVec.getLsbD_xor]
theorem b_big {x : Int32} {i : Nat} (h : 32 ≤ i) : bt x i = false := BitVec.getLsbD_of_ge _ _ h
theorem b_255 (i : Nat) : bt 255 i = decide (i < 8) := by
  rcases Nat.lt_or_ge i 32 with h | h
  · exact (by decide +kernel : ∀ i, i < 32 → bt 255 i = decide (i < 8)) i h
  · rw [b_big h, decide_eq_false (by omega)]
theorem b_65535 (i : Nat) : bt 65535 i = decide (i < 16) := by
  rcases Nat.lt_or_ge i 32 with h | h
  · exact (by decide +kernel : ∀ i, i < 32 → bt 65535 i = decide (i < 16)) i h
  · rw [b_big h, decide_eq_false (by omega)]
theorem b_m1 : ∀ i, i < 32 → bt (-1) i = true := by decide +kernel
theorem b_0 (i : Nat) : bt 0 i = false := BitVec.getLsbD_zero
theorem s_l : ∀ n, n < 32 → ((nI n &&& 31).toBitVec.smod 32).toNat = n := by decide +kernel
theorem s_u : ∀ n, n < 32 → (((nI n).toUInt32 &&& Int32.toUInt32 31).toBitVec % 32).toNat = n := by decide +kernel
theorem b_shl (n : Nat) (hn : n < 32) (x : Int32) {i : Nat} (hi : i < 32) : bt (x <<< (nI n &&& 31)) i = (decide (n ≤ i) && bt x (i - n)) := by
  unfold bt
  rw [Int32.toBitVec_shiftLeft]
  show (x.toBitVec <<< ((nI n &&& 31).toBitVec.smod 32).toNat).getLsbD i = _
  rw [s_l n hn, BitVec.getLsbD_shiftLeft]
  rcases Nat.lt_or_ge i n with h | h
  · simp [h, Nat.not_le.mpr h]
  · simp [hi, h, Nat.not_lt.mpr h]
theorem b_ushr (n : Nat) (hn : n < 32) (x : Int32) (i : Nat) : bt ((x.toUInt32 >>> ((nI n).toUInt32 &&& Int32.toUInt32 31)).toInt32) i = bt x (n + i) := by
  show (x.toUInt32 >>> ((nI n).toUInt32 &&& Int32.toUInt32 31)).toBitVec.getLsbD i = x.toUInt32.toBitVec.getLsbD (n + i)
  rw [UInt32.toBitVec_shiftRight]
  show (x.toUInt32.toBitVec >>> (((nI n).toUInt32 &&& Int32.toUInt32 31).toBitVec % 32).toNat).getLsbD i = _
  rw [s_u n hn, BitVec.getLsbD_ushiftRight]
theorem b_sshr (n : Nat) (hn : n < 32) (x : Int32) {i : Nat} (hi : i < 32) : bt (x >>> (nI n &&& 31)) i = if n + i < 32 then bt x (n + i) else bt x 31 := by
  unfold bt
  rw [Int32.toBitVec_shiftRight]
  show (x.toBitVec.sshiftRight ((nI n &&& 31).toBitVec.smod 32).toNat).getLsbD i = _
  rw [s_l n hn, BitVec.getLsbD_sshiftRight, BitVec.msb_eq_getLsbD_last]
  simp [hi]
theorem pk_us {f : Nat → Int32} {k : Nat} {x : Int32} : upd f k x k = x := if_pos rfl
theorem pk_un {f : Nat → Int32} {k j : Nat} {x : Int32} (h : j ≠ k) : upd f k x j = f j := if_neg h
theorem pk_sub {a b : Nat} (h : b ≤ a) : nI a - nI b = nI (a - b) := by
  obtain ⟨c, rfl⟩ : ∃ c, a = c + b := ⟨a - b, by omega⟩
  rw [← nI_add, Int32.add_sub_cancel, Nat.add_sub_cancel]
theorem pk_mul (a b : Nat) : nI a * nI b = nI (a * b) := (Int32.ofNat_mul a b).symm
theorem pk_div {a d : Nat} (ha : a < 2 ^ 31) (h0 : 0 < d) (hd : d < 2 ^ 31) : nI a / nI d = nI (a / d) := by
  apply Int32.toInt_inj.mp
  rw [lg_idiv_nonneg (by rw [nI_toInt ha]; omega) (by rw [nI_toInt hd]; omega), nI_toInt ha, nI_toInt hd, nI_toInt (Nat.lt_of_le_of_lt (Nat.div_le_self a d) ha)]
  first | rfl | exact (Int.natCast_ediv _ _).symm
theorem pk_rem {a d : Nat} (ha : a < 2 ^ 31) (h0 : 0 < d) (hd : d < 2 ^ 31) : nI a - nI a / nI d * nI d = nI (a % d) := by
  rw [pk_div ha h0 hd, pk_mul, pk_sub (Nat.div_mul_le_self a d)]
  exact congrArg nI (by have := Nat.div_add_mod' a d; omega)
theorem pk_ix (x : Int32) {n : Nat} (hn : n < 2 ^ 31) : x < 0 ∨ nI n ≤ x ∨ ∃ j : Nat, j < n ∧ x = nI j := by
  by_cases h : x < 0
  · exact Or.inl h
  · obtain ⟨j, hj, rfl⟩ := nI_of h
    by_cases h2 : j < n
    · exact Or.inr (Or.inr ⟨j, h2, rfl⟩)
    · exact Or.inr (Or.inl (nI_le (by omega) hj))
theorem pk_le {x y : Int32} {A B : Prop} (a b : Nat) (f : a ≤ b → A) (g : b < a → B) (hx : x = nI a := by rfl) (hy : y = nI b := by rfl) (ha : a < 2 ^ 31 := by omega) (hb : b < 2 ^ 31 := by omega) : (x ≤ y → A) ∧ (¬ x ≤ y → B) := by
  subst hx hy
  rw [nI_leI ha hb]
  exact ⟨f, fun z => g (by omega)⟩
theorem pk_lt {x y : Int32} {A B : Prop} (a b : Nat) (f : a < b → A) (g : b ≤ a → B) (hx : x = nI a := by rfl) (hy : y = nI b := by rfl) (ha : a < 2 ^ 31 := by omega) (hb : b < 2 ^ 31 := by omega) : (x < y → A) ∧ (¬ x < y → B) := by
  subst hx hy
  rw [nI_ltI ha hb]
  exact ⟨f, fun z => g (by omega)⟩
theorem pk_eq {x y : Int32} {A B : Prop} (a b : Nat) (f : a = b → A) (g : a ≠ b → B) (hx : x = nI a := by rfl) (hy : y = nI b := by rfl) (ha : a < 2 ^ 31 := by omega) (hb : b < 2 ^ 31 := by omega) : (x = y → A) ∧ (¬ x = y → B) := by
  subst hx hy
  rw [nI_eq ha hb]
  exact ⟨f, g⟩
theorem pk_in {x : Int32} (n N : Nat) (h : n < N) (hx : x = nI n := by rfl) (hN : N < 2 ^ 31 := by omega) : vp_in x N := by
  subst hx
  exact vp_in_nI h hN
theorem pk_cl {x : Int32} (n : Nat) (hx : x = nI n := by rfl) (h : n < 2 ^ 31 := by omega) : x.toNatClampNeg = n := by
  subst hx
  exact nI_clamp h
theorem pk_tn {n : Nat} (h : n < 2 ^ 32) : (nI n).toBitVec.toNat = n := Nat.mod_eq_of_lt h
theorem pk_loop {σ : Type} (W : Nat → Nat → σ → Prop) (I : Nat → σ → Prop) (e i0 : Nat) (s : σ) (hi : i0 ≤ e) (h0 : I i0 s) (hx : ∀ n s, I e s → W (n + 1) e s)
    (hs : ∀ n i s, i < e → I i s → (∀ s', I (i + 1) s' → W n (i + 1) s') → W (n + 1) i s) : ∃ n, W n i0 s :=
  ⟨e + 1, loop_i W I e hx hs (e + 1) i0 s hi (by omega) h0⟩
theorem pk_least (P : Nat → Prop) (h : ∃ k, P k) : ∃ k, P k ∧ ∀ j, j < k → ¬ P j := by
  obtain ⟨k, hk⟩ := h
  induction k using Nat.strongRecOn with
  | ind k ih =>
    by_cases e : ∃ j, j < k ∧ P j
    · obtain ⟨j, hj, pj⟩ := e
      exact ih j hj pj
    · exact ⟨k, hk, fun j hj pj => e ⟨j, hj, pj⟩⟩
theorem ek_if {c d A B : Prop} (e : c ↔ d) (f : d → A) (g : ¬ d → B) : (c → A) ∧ (¬ c → B) :=
  ⟨fun z => f (e.mp z), fun z => g (fun y => z (e.mpr y))⟩
theorem ek_v {α : Sort _} {P : α → Prop} {a b : α} (e : a = b) (h : P b) : P a := e ▸ h
end
section
def sp_Ans (g : Nat → Int32) (R : Nat → Nat → Prop) (p q : Nat) : Prop := ∀ a, a < 10 → ¬ g (p * 10 + a) = 0 → ∃ b, b < 10 ∧ ¬ g (q * 10 + b) = 0 ∧ R a b
def sp_F (g : Nat → Int32) (R : Nat → Nat → Prop) (s t : Nat) : Prop := R s t ∧ sp_Ans g R s t ∧ sp_Ans g R t s ∧ sp_Ans g R (10 + s) (10 + t) ∧ sp_Ans g R (10 + t) (10 + s)
def sp_A (c g : Nat → Int32) : Nat → Nat → Nat → Prop
  | 0 => fun s t => c s = c t
  | k + 1 => sp_F g (sp_A c g k)
def sp_E (R : Nat → Nat → Prop) : Prop := (∀ s, s < 10 → R s s) ∧ (∀ s t, s < 10 → t < 10 → R s t → R t s) ∧ (∀ s t u, s < 10 → t < 10 → u < 10 → R s t → R t u → R s u)
theorem sp_Ans_refl {g : Nat → Int32} {R : Nat → Nat → Prop} (h : sp_E R) (p : Nat) : sp_Ans g R p p := fun a ha hg => ⟨a, ha, hg, h.1 a ha⟩
theorem sp_Ans_trans {g : Nat → Int32} {R : Nat → Nat → Prop} (h : sp_E R) {p q r : Nat} (h1 : sp_Ans g R p q) (h2 : sp_Ans g R q r) : sp_Ans g R p r := by
  intro a ha hg
  obtain ⟨b, hb, hgb, hab⟩ := h1 a ha hg
  obtain ⟨d, hd, hgd, hbd⟩ := h2 b hb hgb
  exact ⟨d, hd, hgd, h.2.2 a b d ha hb hd hab hbd⟩
theorem sp_F_E {g : Nat → Int32} {R : Nat → Nat → Prop} (h : sp_E R) : sp_E (sp_F g R) := by
  refine ⟨fun s hs => ⟨h.1 s hs, sp_Ans_refl h _, sp_Ans_refl h _, sp_Ans_refl h _, sp_Ans_refl h _⟩, ?_, ?_⟩
  · intro s t hs ht ⟨h1, h2, h3, h4, h5⟩
    exact ⟨h.2.1 s t hs ht h1, h3, h2, h5, h4⟩
  · intro s t u hs ht hu ⟨h1, h2, h3, h4, h5⟩ ⟨k1, k2, k3, k4, k5⟩
    exact ⟨h.2.2 s t u hs ht hu h1 k1, sp_Ans_trans h h2 k2, sp_Ans_trans h k3 h3, sp_Ans_trans h h4 k4, sp_Ans_trans h k5 h5⟩
theorem sp_A_E (c g : Nat → Int32) : ∀ k, sp_E (sp_A c g k) := by
  intro k
  induction k with
  | zero => exact ⟨fun _ _ => rfl, fun _ _ _ _ h => Eq.symm h, fun _ _ _ _ _ _ h1 h2 => Eq.trans h1 h2⟩
  | succ k ih => exact sp_F_E ih
def sp_S (R R' : Nat → Nat → Prop) : Prop := ∀ s t, s < 10 → t < 10 → (R s t ↔ R' s t)
theorem sp_S_refl (R : Nat → Nat → Prop) : sp_S R R := fun _ _ _ _ => Iff.rfl
theorem sp_S_symm {R R' : Nat → Nat → Prop} (h : sp_S R R') : sp_S R' R := fun s t hs ht => (h s t hs ht).symm
theorem sp_S_trans {R R' R'' : Nat → Nat → Prop} (h : sp_S R R') (h' : sp_S R' R'') : sp_S R R'' := fun s t hs ht => (h s t hs ht).trans (h' s t hs ht)
theorem sp_Ans_S {g : Nat → Int32} {R R' : Nat → Nat → Prop} (h : sp_S R R') {p q : Nat} (h1 : sp_Ans g R p q) : sp_Ans g R' p q := by
  intro a ha hg
  obtain ⟨b, hb, hgb, hab⟩ := h1 a ha hg
  exact ⟨b, hb, hgb, (h a b ha hb).mp hab⟩
theorem sp_F_S {g : Nat → Int32} {R R' : Nat → Nat → Prop} (h : sp_S R R') : sp_S (sp_F g R) (sp_F g R') := by
  intro s t hs ht
  constructor
  · intro ⟨h1, h2, h3, h4, h5⟩
    exact ⟨(h s t hs ht).mp h1, sp_Ans_S h h2, sp_Ans_S h h3, sp_Ans_S h h4, sp_Ans_S h h5⟩
  · intro ⟨h1, h2, h3, h4, h5⟩
    exact ⟨(h s t hs ht).mpr h1, sp_Ans_S (sp_S_symm h) h2, sp_Ans_S (sp_S_symm h) h3, sp_Ans_S (sp_S_symm h) h4, sp_Ans_S (sp_S_symm h) h5⟩
theorem sp_A_le (c g : Nat → Int32) {j k : Nat} (h : j ≤ k) {s t : Nat} (hA : sp_A c g k s t) : sp_A c g j s t := by
  induction k with
  | zero =>
    have e : j = 0 := by omega
    subst e
    exact hA
  | succ k ih =>
    by_cases e : j = k + 1
    · subst e
      exact hA
    · exact ih (by omega) hA.1
def sp_st (c g : Nat → Int32) (k : Nat) : Prop := ∀ s t, s < 10 → t < 10 → sp_A c g k s t → sp_A c g (k + 1) s t
theorem sp_st_S {c g : Nat → Int32} {k : Nat} (h : sp_st c g k) : sp_S (sp_A c g (k + 1)) (sp_A c g k) := fun s t hs ht => ⟨fun z => z.1, h s t hs ht⟩
theorem sp_st_up {c g : Nat → Int32} {k : Nat} (h : sp_st c g k) : ∀ m, k ≤ m → sp_S (sp_A c g m) (sp_A c g k) := by
  intro m
  induction m with
  | zero =>
    intro hk
    have e : k = 0 := by omega
    subst e
    exact sp_S_refl _
  | succ m ih =>
    intro hk
    by_cases e : k = m + 1
    · subst e
      exact sp_S_refl _
    · exact sp_S_trans (sp_F_S (ih (by omega))) (sp_st_S h)
noncomputable def sp_ld (R : Nat → Nat → Prop) (s : Nat) : Nat := Classical.epsilon (fun l => l ≤ s ∧ (l = s ∨ R l s) ∧ ∀ j, j < l → ¬ R j s)
theorem sp_ld_ex (R : Nat → Nat → Prop) (s : Nat) : ∃ l, l ≤ s ∧ (l = s ∨ R l s) ∧ ∀ j, j < l → ¬ R j s := by
  obtain ⟨l, h1, h2⟩ := pk_least (fun l => l = s ∨ R l s) ⟨s, Or.inl rfl⟩
  refine ⟨l, ?_, h1, fun j hj z => h2 j hj (Or.inr z)⟩
  by_cases e : l ≤ s
  · exact e
  · exact (h2 s (by omega) (Or.inl rfl)).elim
theorem sp_ld_sp (R : Nat → Nat → Prop) (s : Nat) : sp_ld R s ≤ s ∧ (sp_ld R s = s ∨ R (sp_ld R s) s) ∧ ∀ j, j < sp_ld R s → ¬ R j s := Classical.epsilon_spec (sp_ld_ex R s)
theorem sp_ld_eq {R : Nat → Nat → Prop} {s l : Nat} (h1 : l ≤ s) (h2 : l = s ∨ R l s) (h3 : ∀ j, j < l → ¬ R j s) : sp_ld R s = l := by
  obtain ⟨k1, k2, k3⟩ := sp_ld_sp R s
  rcases Nat.lt_trichotomy (sp_ld R s) l with z | z | z
  · rcases k2 with y | y
    · omega
    · exact absurd y (h3 _ z)
  · exact z
  · rcases h2 with y | y
    · omega
    · exact absurd y (k3 _ z)
theorem sp_ld_R {R : Nat → Nat → Prop} (h : sp_E R) {s : Nat} (hs : s < 10) : R (sp_ld R s) s := by
  rcases (sp_ld_sp R s).2.1 with z | z
  · rw [z]
    exact h.1 s hs
  · exact z
theorem sp_ld_lt (R : Nat → Nat → Prop) {s : Nat} (hs : s < 10) : sp_ld R s < 10 := Nat.lt_of_le_of_lt (sp_ld_sp R s).1 hs
theorem sp_ld_S {R R' : Nat → Nat → Prop} (h : sp_S R R') {s : Nat} (hs : s < 10) : sp_ld R s = sp_ld R' s := by
  obtain ⟨k1, k2, k3⟩ := sp_ld_sp R' s
  refine sp_ld_eq k1 ?_ ?_
  · rcases k2 with y | y
    · exact Or.inl y
    · exact Or.inr ((h _ s (by omega) hs).mpr y)
  · intro j hj z
    exact k3 j hj ((h j s (by omega) hs).mp z)
theorem sp_ld_iff {R : Nat → Nat → Prop} (h : sp_E R) {s t : Nat} (hs : s < 10) (ht : t < 10) : sp_ld R s = sp_ld R t ↔ R s t := by
  have a1 := sp_ld_R h hs
  have a2 := sp_ld_R h ht
  have b1 := sp_ld_lt R hs
  have b2 := sp_ld_lt R ht
  constructor
  · intro e
    rw [e] at a1
    exact h.2.2 s _ t hs b2 ht (h.2.1 _ s b2 hs a1) a2
  · intro z
    have c1 : R (sp_ld R s) t := h.2.2 _ s t b1 hs ht a1 z
    have c2 : R (sp_ld R t) s := h.2.2 _ t s b2 ht hs a2 (h.2.1 s t hs ht z)
    rcases Nat.lt_trichotomy (sp_ld R s) (sp_ld R t) with y | y | y
    · exact absurd c1 ((sp_ld_sp R t).2.2 _ y)
    · exact y
    · exact absurd c2 ((sp_ld_sp R s).2.2 _ y)
def sp_cnt (l : Nat → Nat) : Nat → Nat
  | 0 => 0
  | n + 1 => if l n = n then sp_cnt l n + 1 else sp_cnt l n
theorem sp_cnt_le (l : Nat → Nat) : ∀ n, sp_cnt l n ≤ n := by
  intro n
  induction n with
  | zero => exact Nat.le_refl 0
  | succ n ih =>
    rw [sp_cnt]
    split <;> omega
theorem sp_cnt_pos (l : Nat → Nat) (h : l 0 = 0) : ∀ n, 1 ≤ sp_cnt l (n + 1) := by
  intro n
  induction n with
  | zero =>
    rw [sp_cnt, if_pos h]
    omega
  | succ n ih =>
    rw [sp_cnt]
    split <;> omega
theorem sp_cnt_mono {l l' : Nat → Nat} {n : Nat} (h : ∀ s, s < n → l s = s → l' s = s) : sp_cnt l n ≤ sp_cnt l' n := by
  induction n with
  | zero => exact Nat.le_refl 0
  | succ n ih =>
    have h1 := ih (fun s hs => h s (by omega))
    have h2 := h n (by omega)
    rw [sp_cnt, sp_cnt]
    split
    · rename_i e
      rw [if_pos (h2 e)]
      omega
    · split <;> omega
theorem sp_cnt_strict {l l' : Nat → Nat} {n m : Nat} (h : ∀ s, s < n → l s = s → l' s = s) (hm : m < n) (h1 : ¬ l m = m) (h2 : l' m = m) : sp_cnt l n + 1 ≤ sp_cnt l' n := by
  induction n with
  | zero => omega
  | succ n ih =>
    rw [sp_cnt, sp_cnt]
    by_cases e : m = n
    · subst e
      have k := sp_cnt_mono (n := m) (fun s hs => h s (by omega))
      rw [if_neg h1, if_pos h2]
      omega
    · have k := ih (fun s hs => h s (by omega)) (by omega)
      have k2 := h n (by omega)
      split
      · rename_i z
        rw [if_pos (k2 z)]
        omega
      · split <;> omega
theorem sp_cnt_congr {l l' : Nat → Nat} {n : Nat} (h : ∀ s, s < n → l s = l' s) : sp_cnt l n = sp_cnt l' n := by
  induction n with
  | zero => rfl
  | succ n ih => rw [sp_cnt, sp_cnt, ih (fun s hs => h s (by omega)), h n (by omega)]
theorem sp_split {c g : Nat → Int32} {k : Nat} (h : ¬ sp_st c g k) : sp_cnt (sp_ld (sp_A c g k)) 10 + 1 ≤ sp_cnt (sp_ld (sp_A c g (k + 1))) 10 := by
  have hE := sp_A_E c g k
  have hE' := sp_A_E c g (k + 1)
  have hx : ∃ s t, s < 10 ∧ t < 10 ∧ sp_A c g k s t ∧ ¬ sp_A c g (k + 1) s t := by
    refine Classical.byContradiction (fun z => h ?_)
    intro s t hs ht hA
    refine Classical.byContradiction (fun y => z ⟨s, t, hs, ht, hA, y⟩)
  obtain ⟨s, t, hs, ht, hA, hB⟩ := hx
  have key : ∃ x, x < 10 ∧ ¬ sp_ld (sp_A c g (k + 1)) x = sp_ld (sp_A c g k) x := by
    by_cases e1 : sp_ld (sp_A c g (k + 1)) s = sp_ld (sp_A c g k) s
    · by_cases e2 : sp_ld (sp_A c g (k + 1)) t = sp_ld (sp_A c g k) t
      · exfalso
        apply hB
        rw [← sp_ld_iff hE' hs ht, e1, e2, sp_ld_iff hE hs ht]
        exact hA
      · exact ⟨t, ht, e2⟩
    · exact ⟨s, hs, e1⟩
  obtain ⟨x, hx, hne⟩ := key
  have hm := sp_ld_lt (sp_A c g (k + 1)) hx
  have r1 : sp_A c g (k + 1) (sp_ld (sp_A c g (k + 1)) x) x := sp_ld_R hE' hx
  have r2 : sp_A c g k (sp_ld (sp_A c g (k + 1)) x) x := r1.1
  have e1 := (sp_ld_iff hE' hm hx).mpr r1
  have e2 := (sp_ld_iff hE hm hx).mpr r2
  refine sp_cnt_strict (m := sp_ld (sp_A c g (k + 1)) x) ?_ hm ?_ e1
  · intro y hy e
    refine sp_ld_eq (Nat.le_refl _) (Or.inl rfl) ?_
    intro j hj z
    exact (sp_ld_sp (sp_A c g k) y).2.2 j (by omega) z.1
  · intro z
    exact hne (z.symm.trans e2)
theorem sp_grow {c g : Nat → Int32} : ∀ k, (∀ j, j < k → ¬ sp_st c g j) → k + 1 ≤ sp_cnt (sp_ld (sp_A c g k)) 10 := by
  intro k
  induction k with
  | zero =>
    intro _
    refine sp_cnt_pos _ ?_ 9
    have := (sp_ld_sp (sp_A c g 0) 0).1
    omega
  | succ k ih =>
    intro h
    have h1 := ih (fun j hj => h j (by omega))
    have h2 := sp_split (h k (by omega))
    omega
theorem sp_K (c g : Nat → Int32) : ∃ K, K ≤ 9 ∧ sp_st c g K ∧ ∀ j, j < K → ¬ sp_st c g j := by
  have h : ∃ K, sp_st c g K := by
    refine Classical.byContradiction (fun z => ?_)
    have h1 := sp_grow (c := c) (g := g) 10 (fun j _ y => z ⟨j, y⟩)
    have h2 := sp_cnt_le (sp_ld (sp_A c g 10)) 10
    omega
  obtain ⟨K, h1, h2⟩ := pk_least (sp_st c g) h
  refine ⟨K, ?_, h1, h2⟩
  have h3 := sp_grow K h2
  have h4 := sp_cnt_le (sp_ld (sp_A c g K)) 10
  omega
theorem sp_b1 : ∀ n, n < 10 → ∀ i, i < 32 → bt ((1 : Int32) <<< (nI n &&& 31)) i = decide (n = i) := by decide +kernel
def sp_LT (g : Nat → Int32) (l : Nat → Nat) (p : Nat) : Nat → Int32
  | 0 => 0
  | t + 1 => if g (p * 10 + t) = 0 then sp_LT g l p t else sp_LT g l p t ||| ((1 : Int32) <<< (nI (l t) &&& 31))
theorem sp_LT_bt {g : Nat → Int32} {l : Nat → Nat} (p : Nat) {i : Nat} (hi : i < 32) : ∀ n, (∀ t, t < n → l t < 10) → (bt (sp_LT g l p n) i = true ↔ ∃ t, t < n ∧ ¬ g (p * 10 + t) = 0 ∧ l t = i) := by
  intro n
  induction n with
  | zero =>
    intro _
    rw [sp_LT, b_0]
    constructor
    · intro z
      cases z
    · intro ⟨t, ht, _⟩
      omega
  | succ n ih =>
    intro hl
    have h1 := ih (fun t ht => hl t (by omega))
    rw [sp_LT]
    by_cases e : g (p * 10 + n) = 0
    · rw [if_pos e, h1]
      constructor
      · intro ⟨t, ht, hg, hi⟩
        exact ⟨t, by omega, hg, hi⟩
      · intro ⟨t, ht, hg, hi⟩
        by_cases y : t = n
        · subst y
          exact absurd e hg
        · exact ⟨t, by omega, hg, hi⟩
    · rw [if_neg e, b_or, sp_b1 _ (hl n (by omega)) i hi, Bool.or_eq_true, h1, decide_eq_true_eq]
      constructor
      · rintro (⟨t, ht, hg, hi⟩ | z)
        · exact ⟨t, by omega, hg, hi⟩
        · exact ⟨n, by omega, e, z⟩
      · intro ⟨t, ht, hg, hi⟩
        by_cases y : t = n
        · subst y
          exact Or.inr hi
        · exact Or.inl ⟨t, by omega, hg, hi⟩
theorem sp_LT_congr {g : Nat → Int32} {l l' : Nat → Nat} (p : Nat) : ∀ n, (∀ t, t < n → l t = l' t) → sp_LT g l p n = sp_LT g l' p n := by
  intro n
  induction n with
  | zero => exact fun _ => rfl
  | succ n ih =>
    intro h
    rw [sp_LT, sp_LT, ih (fun t ht => h t (by omega)), h n (by omega)]
theorem sp_LT_sub {g : Nat → Int32} {R : Nat → Nat → Prop} (hE : sp_E R) {p q : Nat} (e : sp_LT g (sp_ld R) p 10 = sp_LT g (sp_ld R) q 10) : sp_Ans g R p q := by
  intro a ha hg
  have hl : ∀ t, t < 10 → sp_ld R t < 10 := fun t ht => sp_ld_lt R ht
  have hi : sp_ld R a < 32 := by
    have := hl a ha
    omega
  have h1 := (sp_LT_bt (g := g) p hi 10 hl).mpr ⟨a, ha, hg, rfl⟩
  rw [e, sp_LT_bt (g := g) q hi 10 hl] at h1
  obtain ⟨b, hb, hgb, hab⟩ := h1
  exact ⟨b, hb, hgb, (sp_ld_iff hE ha hb).mp hab.symm⟩
theorem sp_LT_eq {g : Nat → Int32} {R : Nat → Nat → Prop} (hE : sp_E R) (p q : Nat) : sp_LT g (sp_ld R) p 10 = sp_LT g (sp_ld R) q 10 ↔ sp_Ans g R p q ∧ sp_Ans g R q p := by
  have hl : ∀ t, t < 10 → sp_ld R t < 10 := fun t ht => sp_ld_lt R ht
  constructor
  · intro e
    exact ⟨sp_LT_sub hE e, sp_LT_sub hE e.symm⟩
  · intro ⟨h1, h2⟩
    refine b_ext (fun i hi => ?_)
    rw [Bool.eq_iff_iff, sp_LT_bt p hi 10 hl, sp_LT_bt q hi 10 hl]
    constructor
    · intro ⟨a, ha, hg, e⟩
      obtain ⟨b, hb, hgb, hab⟩ := h1 a ha hg
      exact ⟨b, hb, hgb, by rw [← e, (sp_ld_iff hE ha hb).mpr hab]⟩
    · intro ⟨a, ha, hg, e⟩
      obtain ⟨b, hb, hgb, hab⟩ := h2 a ha hg
      exact ⟨b, hb, hgb, by rw [← e, (sp_ld_iff hE ha hb).mpr hab]⟩
theorem sp_F_iff {g : Nat → Int32} {R : Nat → Nat → Prop} (hE : sp_E R) {s t : Nat} (hs : s < 10) (ht : t < 10) : sp_F g R s t ↔ sp_ld R s = sp_ld R t ∧ sp_LT g (sp_ld R) s 10 = sp_LT g (sp_ld R) t 10 ∧ sp_LT g (sp_ld R) (10 + s) 10 = sp_LT g (sp_ld R) (10 + t) 10 := by
  rw [sp_ld_iff hE hs ht, sp_LT_eq hE, sp_LT_eq hE]
  constructor
  · intro ⟨h1, h2, h3, h4, h5⟩
    exact ⟨h1, ⟨h2, h3⟩, ⟨h4, h5⟩⟩
  · intro ⟨h1, ⟨h2, h3⟩, ⟨h4, h5⟩⟩
    exact ⟨h1, h2, h3, h4, h5⟩
end
section
noncomputable def sp_B (P : Prop) : Int32 := @ite Int32 P (Classical.propDecidable P) 1 0
theorem sp_B_t {P : Prop} (h : P) : sp_B P = 1 := if_pos h
theorem sp_B_f {P : Prop} (h : ¬ P) : sp_B P = 0 := if_neg h
theorem sp_B_0 {P : Prop} : sp_B P = 0 ↔ ¬ P := by
  constructor
  · intro e h
    rw [sp_B_t h] at e
    exact absurd e (by decide)
  · exact sp_B_f
theorem sp_B_1 {P : Prop} : sp_B P = 1 ↔ P := by
  constructor
  · intro e
    refine Classical.byContradiction (fun h => ?_)
    rw [sp_B_f h] at e
    exact absurd e (by decide)
  · exact sp_B_t
theorem sp_B_c {P Q : Prop} (h : P ↔ Q) : sp_B P = sp_B Q := by
  by_cases p : P
  · rw [sp_B_t p, sp_B_t (h.mp p)]
  · rw [sp_B_f p, sp_B_f (fun q => p (h.mpr q))]
theorem sp_B_01 (P : Prop) : sp_B P = 0 ∨ sp_B P = 1 := by
  by_cases p : P
  · exact Or.inr (sp_B_t p)
  · exact Or.inl (sp_B_f p)
theorem sp_B_n (P : Prop) : narrow .boolean (.int (sp_B P)) = .int (sp_B P) := by
  rcases sp_B_01 P with h | h
  · rw [h]
    rfl
  · rw [h]
    rfl
theorem sp_nar0 : vp_nar .boolean 0 = 0 := rfl
theorem sp_nar1 : vp_nar .boolean 1 = 1 := rfl
theorem sp_B_v (P : Prop) : vp_nar .boolean (sp_B P) = sp_B P := by
  rcases sp_B_01 P with h | h
  · rw [h]
    rfl
  · rw [h]
    rfl
def sp_Rep (n : Nat → Int32) (R : Nat → Nat → Prop) : Prop := ∀ p, p < 100 → n p = sp_B (R (p / 10) (p % 10))
theorem sp_Rep_at {n : Nat → Int32} {R : Nat → Nat → Prop} (h : sp_Rep n R) {s t : Nat} (hs : s < 10) (ht : t < 10) : n (s * 10 + t) = sp_B (R s t) := by
  rw [h (s * 10 + t) (by omega), show (s * 10 + t) / 10 = s by omega, show (s * 10 + t) % 10 = t by omega]
theorem sp_Rep_S {n : Nat → Int32} {R R' : Nat → Nat → Prop} (h : sp_Rep n R) (hS : sp_S R R') : sp_Rep n R' := by
  intro p hp
  rw [h p hp]
  exact sp_B_c (hS _ _ (by omega) (by omega))
noncomputable def sp_T (c g : Nat → Int32) (p : Nat) : Nat → Int32
  | 0 => -2
  | k + 1 => @ite Int32 (sp_T c g p k = -2 ∧ ¬ sp_A c g k (p / 10) (p % 10)) (Classical.propDecidable _) (nI k) (sp_T c g p k)
theorem sp_T_s {c g : Nat → Int32} {p k : Nat} (h : sp_T c g p k = -2 ∧ ¬ sp_A c g k (p / 10) (p % 10)) : sp_T c g p (k + 1) = nI k := by
  rw [sp_T]
  exact if_pos h
theorem sp_T_k {c g : Nat → Int32} {p k : Nat} (h : ¬ (sp_T c g p k = -2 ∧ ¬ sp_A c g k (p / 10) (p % 10))) : sp_T c g p (k + 1) = sp_T c g p k := by
  rw [sp_T]
  exact if_neg h
theorem sp_T_none {c g : Nat → Int32} {p : Nat} : ∀ k, (∀ j, j < k → sp_A c g j (p / 10) (p % 10)) → sp_T c g p k = -2 := by
  intro k
  induction k with
  | zero => exact fun _ => rfl
  | succ k ih =>
    intro h
    rw [sp_T_k (fun z => z.2 (h k (by omega)))]
    exact ih (fun j hj => h j (by omega))
theorem sp_n2 : ∀ j, j < 100 → ¬ nI j = -2 := by decide +kernel
theorem sp_T_some {c g : Nat → Int32} {p j : Nat} (hj : ¬ sp_A c g j (p / 10) (p % 10)) (hb : ∀ i, i < j → sp_A c g i (p / 10) (p % 10)) : ∀ k, k < 100 → j < k → sp_T c g p k = nI j := by
  intro k
  induction k with
  | zero =>
    intro _ h
    omega
  | succ k ih =>
    intro hk h
    by_cases e : j = k
    · subst e
      exact sp_T_s ⟨sp_T_none j hb, hj⟩
    · have h1 := ih (by omega) (by omega)
      rw [sp_T_k (fun z => sp_n2 j (by omega) (h1.symm.trans z.1)), h1]
theorem sp_T_cases {c g : Nat → Int32} {K : Nat} (hK : K ≤ 9) (hs : sp_st c g K) {p : Nat} (hp : p < 100) : (sp_T c g p 11 = -2 ∧ ∀ j, sp_A c g j (p / 10) (p % 10)) ∨ ∃ j, j ≤ K ∧ sp_T c g p 11 = nI j ∧ ¬ sp_A c g j (p / 10) (p % 10) ∧ ∀ i, i < j → sp_A c g i (p / 10) (p % 10) := by
  by_cases e : ∃ j, ¬ sp_A c g j (p / 10) (p % 10)
  · right
    obtain ⟨j, h1, h2⟩ := pk_least (fun j => ¬ sp_A c g j (p / 10) (p % 10)) e
    have h3 : ∀ i, i < j → sp_A c g i (p / 10) (p % 10) := fun i hi => Classical.byContradiction (fun z => h2 i hi z)
    have h4 : j ≤ K := by
      refine Classical.byContradiction (fun z => h1 ?_)
      exact (sp_st_up hs j (by omega) _ _ (by omega) (by omega)).mpr (h3 K (by omega))
    exact ⟨j, h4, sp_T_some h1 h3 11 (by omega) (by omega), h1, h3⟩
  · left
    have h1 : ∀ j, sp_A c g j (p / 10) (p % 10) := fun j => Classical.byContradiction (fun z => e ⟨j, z⟩)
    exact ⟨sp_T_none 11 (fun j _ => h1 j), h1⟩
theorem sp_K_hit {c g : Nat → Int32} {K : Nat} (hm : ∀ j, j < K → ¬ sp_st c g j) : K = 0 ∨ ∃ p, p < 100 ∧ ¬ sp_A c g K (p / 10) (p % 10) ∧ ∀ i, i < K → sp_A c g i (p / 10) (p % 10) := by
  by_cases e : K = 0
  · exact Or.inl e
  · right
    have h := hm (K - 1) (by omega)
    have hx : ∃ s t, s < 10 ∧ t < 10 ∧ sp_A c g (K - 1) s t ∧ ¬ sp_A c g (K - 1 + 1) s t := by
      refine Classical.byContradiction (fun z => h ?_)
      intro s t hs ht hA
      refine Classical.byContradiction (fun y => z ⟨s, t, hs, ht, hA, y⟩)
    obtain ⟨s, t, hs, ht, hA, hB⟩ := hx
    rw [show K - 1 + 1 = K by omega] at hB
    refine ⟨s * 10 + t, by omega, ?_, ?_⟩
    · rw [show (s * 10 + t) / 10 = s by omega, show (s * 10 + t) % 10 = t by omega]
      exact hB
    · intro i hi
      rw [show (s * 10 + t) / 10 = s by omega, show (s * 10 + t) % 10 = t by omega]
      exact sp_A_le c g (by omega) hA
def sp_v (b : Bool) : Int32 := if b then 1 else 0
theorem sp_v_0 {b : Bool} : sp_v b = 0 ↔ b = false := by cases b <;> decide +kernel
theorem sp_b1' : ∀ i, i < 32 → bt 1 i = decide (i = 0) := by decide +kernel
theorem sp_bv (b : Bool) : ∀ i, i < 32 → bt (sp_v b) i = (b && decide (i = 0)) := by
  cases b <;> decide +kernel
theorem sp_bit (x : Int32) {t : Nat} (ht : t < 32) : (x >>> (nI t &&& 31)) &&& 1 = sp_v (bt x t) := by
  refine b_ext (fun i hi => ?_)
  rw [b_and, b_sshr t ht x hi, sp_b1' i hi, sp_bv _ i hi]
  by_cases e : i = 0
  · subst e
    rw [if_pos (by omega), Nat.add_zero]
  · rw [decide_eq_false e, Bool.and_false, Bool.and_false]
theorem sp_or (x : Int32) {t : Nat} (ht : t < 10) {i : Nat} (hi : i < 32) : bt (x ||| ((1 : Int32) <<< (nI t &&& 31))) i = (bt x i || decide (t = i)) := by
  rw [b_or, sp_b1 t ht i hi]
theorem sp_clr (x : Int32) {t : Nat} (ht : t < 10) {i : Nat} (hi : i < 32) : bt (x &&& (((1 : Int32) <<< (nI t &&& 31)) ^^^ (-1))) i = (bt x i && !decide (t = i)) := by
  rw [b_and, b_xor, sp_b1 t ht i hi, b_m1 i hi, Bool.xor_true]
def sp_M (a g : Nat → Int32) : Prop := ∀ p t, p < 20 → t < 10 → g (p * 10 + t) = sp_v (bt (a p) t)
def sp_C (c : Nat → Int32) : Prop := ∀ s, s < 10 → ∃ j, j < 4 ∧ c s = nI j
def sp_seen (c : Nat → Int32) : Nat → Int32
  | 0 => 0
  | n + 1 => sp_seen c n ||| ((1 : Int32) <<< (c n &&& 31))
theorem sp_seen16 : ∀ m, m < 16 → ∀ j, j < 4 → nI m ||| ((1 : Int32) <<< (nI j &&& 31)) = nI (m ||| 2 ^ j) ∧ (m ||| 2 ^ j) < 16 := by decide +kernel
theorem sp_seen_lt {c : Nat → Int32} (h : sp_C c) : ∀ n, n ≤ 10 → ∃ m, m < 16 ∧ sp_seen c n = nI m := by
  intro n
  induction n with
  | zero => exact fun _ => ⟨0, by omega, rfl⟩
  | succ n ih =>
    intro hn
    obtain ⟨m, hm, e⟩ := ih (by omega)
    obtain ⟨j, hj, ej⟩ := h n (by omega)
    have h1 := sp_seen16 m hm j hj
    exact ⟨_, h1.2, by rw [sp_seen, e, ej, h1.1]⟩
def sp_sz (x : Int32) : Nat → Int32
  | 0 => 0
  | n + 1 => sp_sz x n + ((x >>> (nI n &&& 31)) &&& 1)
end
section
def sp_P (N i : Nat) (a nw od : Nat → Int32) : Prop := ∀ q, q < N → a q = if q < i then nw q else od q
theorem sp_P0 (N : Nat) (a nw : Nat → Int32) : sp_P N 0 a nw a := fun q _ => (if_neg (Nat.not_lt_zero q)).symm
theorem sp_Pe {N : Nat} {a nw od : Nat → Int32} (h : sp_P N N a nw od) : ∀ q, q < N → a q = nw q := fun q hq => (h q hq).trans (if_pos hq)
theorem sp_Pu {N i : Nat} {a nw od : Nat → Int32} (h : sp_P N i a nw od) {x : Int32} (hx : x = nw i) : sp_P N (i + 1) (upd a i x) nw od := by
  intro q hq
  by_cases e : q = i
  · subst e
    rw [pk_us, if_pos (by omega), hx]
  · rw [pk_un e, h q hq]
    by_cases z : q < i
    · rw [if_pos z, if_pos (by omega)]
    · rw [if_neg z, if_neg (by omega)]
theorem sp_Pk {N i : Nat} {a nw od : Nat → Int32} (h : sp_P N i a nw od) (hx : od i = nw i) : sp_P N (i + 1) a nw od := by
  intro q hq
  rw [h q hq]
  by_cases e : q = i
  · subst e
    rw [if_neg (by omega), if_pos (by omega), hx]
  · by_cases z : q < i
    · rw [if_pos z, if_pos (by omega)]
    · rw [if_neg z, if_neg (by omega)]
theorem sp_Po {N i : Nat} {a nw od : Nat → Int32} (h : sp_P N i a nw od) (hi : i < N) : a i = od i := (h i hi).trans (if_neg (Nat.lt_irrefl i))
theorem sp_Pc {N i j : Nat} {a nw od : Nat → Int32} (h : sp_P N i a nw od) (e : i = j) : sp_P N j a nw od := e ▸ h
theorem sp_ix (p t : Nat) : nI p * 10 + nI t = nI (p * 10 + t) := by
  show nI p * nI 10 + nI t = _
  rw [pk_mul, nI_add]
theorem sp_ix2 (o s t : Nat) : nI o * 100 + nI s * 10 + nI t = nI ((o * 10 + s) * 10 + t) := by
  show nI o * nI 100 + nI s * nI 10 + nI t = _
  rw [pk_mul, pk_mul, nI_add, nI_add]
  exact congrArg nI (by omega)
theorem sp_ix3 (s : Nat) : (10 : Int32) + nI s = nI (10 + s) := nI_add 10 s
theorem sp_d10 {p : Nat} (h : p < 100) : nI p / 10 = nI (p / 10) := pk_div (d := 10) (by omega) (by decide) (by decide)
theorem sp_r10 {p : Nat} (h : p < 100) : nI p - nI p / 10 * 10 = nI (p % 10) := pk_rem (d := 10) (by omega) (by decide) (by decide)
noncomputable def sp_mem (P : Nat → Prop) : Nat → Int32
  | 0 => 0
  | n + 1 => @ite Int32 (P n) (Classical.propDecidable (P n)) (sp_mem P n ||| ((1 : Int32) <<< (nI n &&& 31))) (sp_mem P n)
theorem sp_mem_t {P : Nat → Prop} {n : Nat} (h : P n) : sp_mem P (n + 1) = sp_mem P n ||| ((1 : Int32) <<< (nI n &&& 31)) := by
  rw [sp_mem]
  exact if_pos h
theorem sp_mem_f {P : Nat → Prop} {n : Nat} (h : ¬ P n) : sp_mem P (n + 1) = sp_mem P n := by
  rw [sp_mem]
  exact if_neg h
theorem sp_mem_c {P Q : Nat → Prop} : ∀ n, (∀ t, t < n → (P t ↔ Q t)) → sp_mem P n = sp_mem Q n := by
  intro n
  induction n with
  | zero => exact fun _ => rfl
  | succ n ih =>
    intro h
    have h1 := ih (fun t ht => h t (by omega))
    by_cases e : P n
    · rw [sp_mem_t e, sp_mem_t ((h n (by omega)).mp e), h1]
    · rw [sp_mem_f e, sp_mem_f (fun z => e ((h n (by omega)).mpr z)), h1]
theorem sp_LT_t {g : Nat → Int32} {l : Nat → Nat} {p n : Nat} (h : g (p * 10 + n) = 0) : sp_LT g l p (n + 1) = sp_LT g l p n := by
  rw [sp_LT, if_pos h]
theorem sp_LT_f {g : Nat → Int32} {l : Nat → Nat} {p n : Nat} (h : ¬ g (p * 10 + n) = 0) : sp_LT g l p (n + 1) = sp_LT g l p n ||| ((1 : Int32) <<< (nI (l n) &&& 31)) := by
  rw [sp_LT, if_neg h]
theorem sp_cnt_t {l : Nat → Nat} {n : Nat} (h : l n = n) : sp_cnt l (n + 1) = sp_cnt l n + 1 := by
  rw [sp_cnt, if_pos h]
theorem sp_cnt_f {l : Nat → Nat} {n : Nat} (h : ¬ l n = n) : sp_cnt l (n + 1) = sp_cnt l n := by
  rw [sp_cnt, if_neg h]
theorem sp_sz16 : ∀ m, m < 16 → sp_sz (nI m) 10 = (nI m &&& 1) + ((nI m >>> ((1 : Int32) &&& 31)) &&& 1) + ((nI m >>> ((2 : Int32) &&& 31)) &&& 1) + ((nI m >>> ((3 : Int32) &&& 31)) &&& 1) := by decide +kernel
end
section
theorem xa_36 {post : SX → Prop} {J : Int32 → (Nat → Int32) → (Nat → Int32) → (Nat → Int32) → (Nat → Int32) → (Nat → Int32) → (Nat → Int32) → Prop} {r : Int32} {s : Nat} (hs : s < 10) {co tg lo fl lt nw od : Nat → Int32}
    (hn : ∀ q, q < 100 → nw q = if od q = -2 ∧ ¬ lo (q / 10) = lo (q % 10) then r else od q)
    (H : ∀ tr, sp_P 100 (s * 10 + 10) tr nw od → J (nI (s + 1)) co tg lo fl lt tr) :
    ∀ n i tr, i ≤ 10 → 10 - i < n → sp_P 100 (s * 10 + i) tr nw od → wX_adoptSplit_36 post J r (nI s) n (nI i) co tg lo fl lt tr := by
  refine loop_i (fun n i tr => wX_adoptSplit_36 post J r (nI s) n (nI i) co tg lo fl lt tr) (fun i tr => sp_P 100 (s * 10 + i) tr nw od) 10 ?_ ?_
  · intro n tr h
    exact pk_le 10 10 (fun _ => nm_r (nI_1 s) (H tr h)) (fun z => absurd z (by omega))
  · intro n i tr hi h k
    have ho := sp_Po h (show s * 10 + i < 100 by omega)
    have hq := hn (s * 10 + i) (by omega)
    rw [show (s * 10 + i) / 10 = s by omega, show (s * 10 + i) % 10 = i by omega] at hq
    refine pk_le 10 i (fun z => absurd z (by omega)) (fun _ => nm_r (sp_ix s i) ⟨vp_in_nI (by omega) (by omega), ?_⟩)
    rw [nI_clamp (show s * 10 + i < 2 ^ 31 by omega), nI_clamp (show s < 2 ^ 31 by omega), nI_clamp (show i < 2 ^ 31 by omega), ho]
    refine br_c (fun z => ⟨vp_in_nI hs (by omega), vp_in_nI hi (by omega), br_c (fun y => ?_) (fun y => ?_)⟩) (fun z => ?_)
    · have h2 : od (s * 10 + i) = nw (s * 10 + i) := by
        rw [hq]
        exact (if_neg (fun w => w.2 y)).symm
      exact nm_r (nI_1 i) (k tr (sp_Pk h h2))
    · have h2 : r = nw (s * 10 + i) := by
        rw [hq]
        exact (if_pos ⟨z, y⟩).symm
      exact ⟨vp_in_nI (by omega) (by omega), nm_e (nm_r (nI_1 i) (k _ (sp_Pu h h2)))⟩
    · have h2 : od (s * 10 + i) = nw (s * 10 + i) := by
        rw [hq]
        exact (if_neg (fun w => z w.1)).symm
      exact nm_r (nI_1 i) (k tr (sp_Pk h h2))
theorem xa_28 {post : SX → Prop} {r : Int32} {co tg lo fl lt nw od : Nat → Int32}
    (hn : ∀ q, q < 100 → nw q = if od q = -2 ∧ ¬ lo (q / 10) = lo (q % 10) then r else od q)
    (H : ∀ tr, (∀ q, q < 100 → tr q = nw q) → post (co, tg, lo, fl, lt, tr)) :
    ∀ n i tr, i ≤ 10 → 10 - i < n → sp_P 100 (i * 10) tr nw od → wX_adoptSplit_28 post r n (nI i) co tg lo fl lt tr := by
  refine loop_i (fun n i tr => wX_adoptSplit_28 post r n (nI i) co tg lo fl lt tr) (fun i tr => sp_P 100 (i * 10) tr nw od) 10 ?_ ?_
  · intro n tr h
    exact pk_le 10 10 (fun _ => H tr (sp_Pe (sp_Pc h (show 10 * 10 = 100 by omega)))) (fun z => absurd z (by omega))
  · intro n i tr hi h k
    exact pk_le 10 i (fun z => absurd z (by omega)) (fun _ => ⟨11, xa_36 hi hn (fun tr' h' => k tr' (sp_Pc h' (by omega))) 11 0 tr (by omega) (by omega) (sp_Pc h (by omega))⟩)
theorem xa_2 {post : SX → Prop} {r : Int32} {co tg fl lt tr lo0 : Nat → Int32}
    (H : ∀ lo, (∀ q, q < 10 → lo q = fl q) → ∃ n, wX_adoptSplit_28 post r n (nI 0) co tg lo fl lt tr) :
    ∀ n i lo, i ≤ 10 → 10 - i < n → sp_P 10 i lo fl lo0 → wX_adoptSplit_2 post r n (nI i) co tg lo fl lt tr := by
  refine loop_i (fun n i lo => wX_adoptSplit_2 post r n (nI i) co tg lo fl lt tr) (fun i lo => sp_P 10 i lo fl lo0) 10 ?_ ?_
  · intro n lo h
    exact pk_le 10 10 (fun _ => H lo (sp_Pe h)) (fun z => absurd z (by omega))
  · intro n i lo hi h k
    refine pk_le 10 i (fun z => absurd z (by omega)) (fun _ => ⟨vp_in_nI hi (by omega), vp_in_nI hi (by omega), ?_⟩)
    rw [nI_clamp (show i < 2 ^ 31 by omega)]
    exact nm_e (nm_r (nI_1 i) (k _ (sp_Pu h rfl)))
theorem xa_m {post : SX → Prop} {r : Int32} {co tg lo fl lt tr : Nat → Int32}
    (H : ∀ lo' tr', (∀ q, q < 10 → lo' q = fl q) → (∀ q, q < 100 → tr' q = if tr q = -2 ∧ ¬ fl (q / 10) = fl (q % 10) then r else tr q) → post (co, tg, lo', fl, lt, tr')) :
    wpX_adoptSplit post (co, tg, lo, fl, lt, tr) r := by
  refine ⟨11, xa_2 (lo0 := lo) (fun lo' h => ?_) 11 0 lo (by omega) (by omega) (sp_P0 10 lo fl)⟩
  refine ⟨11, xa_28 (od := tr) (nw := fun q => if tr q = -2 ∧ ¬ lo' (q / 10) = lo' (q % 10) then r else tr q) (fun q _ => rfl) (fun tr' h' => H lo' tr' h (fun q hq => ?_)) 11 0 tr (by omega) (by omega) (sp_P0 100 tr _)⟩
  refine (h' q hq).trans ?_
  show (if tr q = -2 ∧ ¬ lo' (q / 10) = lo' (q % 10) then r else tr q) = _
  rw [h (q / 10) (by omega), h (q % 10) (by omega)]
theorem xa_k {post : SX → Prop} {co tg lo fl lt tr c g : Nat → Int32} {k : Nat}
    (hf : ∀ s, s < 10 → fl s = nI (sp_ld (sp_A c g k) s)) (ht : ∀ q, q < 100 → tr q = sp_T c g q k)
    (H : ∀ lo' tr', (∀ s, s < 10 → lo' s = nI (sp_ld (sp_A c g k) s)) → (∀ q, q < 100 → tr' q = sp_T c g q (k + 1)) → post (co, tg, lo', fl, lt, tr')) :
    wpX_adoptSplit post (co, tg, lo, fl, lt, tr) (nI k) := by
  refine xa_m (fun lo' tr' h1 h2 => H lo' tr' (fun s hs => (h1 s hs).trans (hf s hs)) (fun q hq => (h2 q hq).trans ?_))
  have a1 : q / 10 < 10 := by omega
  have a2 : q % 10 < 10 := by omega
  have b1 := sp_ld_lt (sp_A c g k) a1
  have b2 := sp_ld_lt (sp_A c g k) a2
  have e : fl (q / 10) = fl (q % 10) ↔ sp_A c g k (q / 10) (q % 10) := by
    rw [hf _ a1, hf _ a2, nI_eq (by omega) (by omega), sp_ld_iff (sp_A_E c g k) a1 a2]
  rw [ht q hq]
  by_cases z : sp_T c g q k = -2 ∧ ¬ sp_A c g k (q / 10) (q % 10)
  · rw [sp_T_s z]
    exact if_pos ⟨z.1, fun w => z.2 (e.mp w)⟩
  · rw [sp_T_k z]
    exact if_neg (fun w => z ⟨w.1, fun y => w.2 (e.mpr y)⟩)
theorem xc_32 {post : SX → Prop} {J : Int32 → (Nat → Int32) → (Nat → Int32) → (Nat → Int32) → (Nat → Int32) → (Nat → Int32) → (Nat → Int32) → Prop} {co tg lo fl lt tr g : Nat → Int32} {s : Nat} (hs : s < 10)
    (H : J (nI (s + 1)) co tg lo (upd fl s (nI (sp_ld (sp_A co g 0) s))) lt tr) :
    ∀ d i, i + d = s → (∀ j, j < i → ¬ sp_A co g 0 j s) → ∀ n, d < n → wX_splitByColour_32 post J (nI s) co tg lo fl lt tr n (nI i) := by
  intro d
  induction d with
  | zero =>
    intro i hi h n hn
    obtain ⟨m, rfl⟩ : ∃ m, n = m + 1 := ⟨n - 1, by omega⟩
    have e : sp_ld (sp_A co g 0) s = i := sp_ld_eq (by omega) (Or.inl (by omega)) h
    refine pk_le s i (fun _ => ⟨vp_in_nI hs (by omega), ?_⟩) (fun z => absurd z (by omega))
    rw [nI_clamp (show s < 2 ^ 31 by omega), ← e]
    exact nm_e (nm_r (nI_1 s) H)
  | succ d ih =>
    intro i hi h n hn
    obtain ⟨m, rfl⟩ : ∃ m, n = m + 1 := ⟨n - 1, by omega⟩
    refine pk_le s i (fun z => absurd z (by omega)) (fun _ => ⟨vp_in_nI (by omega) (by omega), vp_in_nI hs (by omega), ?_⟩)
    rw [nI_clamp (show i < 2 ^ 31 by omega), nI_clamp (show s < 2 ^ 31 by omega)]
    refine br_c (fun z => ⟨vp_in_nI hs (by omega), ?_⟩) (fun z => nm_r (nI_1 i) (ih (i + 1) (by omega) (fun j hj => ?_) m (by omega)))
    · have e : sp_ld (sp_A co g 0) s = i := sp_ld_eq (by omega) (Or.inr z) h
      rw [← e]
      exact nm_e (nm_r (nI_1 s) H)
    · by_cases y : j = i
      · subst y
        exact z
      · exact h j (by omega)
theorem xc_24 {post : SX → Prop} {co tg lo lt tr fl0 g : Nat → Int32}
    (H : ∀ fl, (∀ s, s < 10 → fl s = nI (sp_ld (sp_A co g 0) s)) → wpX_adoptSplit post (co, tg, lo, fl, lt, tr) (nI 0)) :
    ∀ n i fl, i ≤ 10 → 10 - i < n → sp_P 10 i fl (fun s => nI (sp_ld (sp_A co g 0) s)) fl0 → wX_splitByColour_24 post n (nI i) co tg lo fl lt tr := by
  refine loop_i (fun n i fl => wX_splitByColour_24 post n (nI i) co tg lo fl lt tr) (fun i fl => sp_P 10 i fl (fun s => nI (sp_ld (sp_A co g 0) s)) fl0) 10 ?_ ?_
  · intro n fl h
    exact pk_le 10 10 (fun _ => H fl (sp_Pe h)) (fun z => absurd z (by omega))
  · intro n i fl hi h k
    exact pk_le 10 i (fun z => absurd z (by omega)) (fun _ => ⟨11, xc_32 (g := g) hi (k _ (sp_Pu h rfl)) i 0 (by omega) (fun j hj => absurd hj (Nat.not_lt_zero j)) 11 (by omega)⟩)
theorem xc_2 {post : SX → Prop} {co tg lo fl lt tr0 : Nat → Int32}
    (H : ∀ tr, (∀ q, q < 100 → tr q = -2) → ∃ n, wX_splitByColour_24 post n (nI 0) co tg lo fl lt tr) :
    ∀ n i tr, i ≤ 100 → 100 - i < n → sp_P 100 i tr (fun _ => -2) tr0 → wX_splitByColour_2 post n (nI i) co tg lo fl lt tr := by
  refine loop_i (fun n i tr => wX_splitByColour_2 post n (nI i) co tg lo fl lt tr) (fun i tr => sp_P 100 i tr (fun _ => -2) tr0) 100 ?_ ?_
  · intro n tr h
    exact pk_le 100 100 (fun _ => H tr (sp_Pe h)) (fun z => absurd z (by omega))
  · intro n i tr hi h k
    refine pk_le 100 i (fun z => absurd z (by omega)) (fun _ => ⟨vp_in_nI hi (by omega), ?_⟩)
    rw [nI_clamp (show i < 2 ^ 31 by omega)]
    exact nm_e (nm_r (nI_1 i) (k _ (sp_Pu h rfl)))
theorem xc_m {post : SX → Prop} {co tg lo fl lt tr g : Nat → Int32}
    (H : ∀ lo' fl' tr', (∀ s, s < 10 → lo' s = nI (sp_ld (sp_A co g 0) s)) → (∀ q, q < 100 → tr' q = sp_T co g q 1) → post (co, tg, lo', fl', lt, tr')) :
    wpX_splitByColour post (co, tg, lo, fl, lt, tr) := by
  refine ⟨101, xc_2 (tr0 := tr) (fun tr' h => ?_) 101 0 tr (by omega) (by omega) (sp_P0 100 tr _)⟩
  refine ⟨11, xc_24 (g := g) (fl0 := fl) (fun fl' hf => ?_) 11 0 fl (by omega) (by omega) (sp_P0 10 fl _)⟩
  exact xa_k (c := co) (g := g) hf (fun q hq => h q hq) (fun lo' tr'' h1 h2 => H lo' fl' tr'' h1 h2)
end
section
theorem xf_12 {post : SX → Prop} {J : Int32 → (Nat → Int32) → (Nat → Int32) → (Nat → Int32) → (Nat → Int32) → (Nat → Int32) → (Nat → Int32) → Prop} {co tg lo fl lt tr g : Nat → Int32} {l : Nat → Nat} {p : Nat} (hp : p < 20) (hM : sp_M tg g) (hl : ∀ s, s < 10 → lo s = nI (l s))
    (H : J (nI (p + 1)) co tg lo fl (upd lt p (sp_LT g l p 10)) tr) :
    ∀ n i x, i ≤ 10 → 10 - i < n → x = sp_LT g l p i → wX_findLeaderTargets_12 post J (nI p) co tg lo fl lt tr n x (nI i) := by
  refine loop_i (fun n i x => wX_findLeaderTargets_12 post J (nI p) co tg lo fl lt tr n x (nI i)) (fun i x => x = sp_LT g l p i) 10 ?_ ?_
  · intro n x h
    refine pk_le 10 10 (fun _ => ⟨vp_in_nI hp (by omega), ?_⟩) (fun z => absurd z (by omega))
    rw [nI_clamp (show p < 2 ^ 31 by omega), h]
    exact nm_e (nm_r (nI_1 p) H)
  · intro n i x hi h k
    refine pk_le 10 i (fun z => absurd z (by omega)) (fun _ => ⟨vp_in_nI hp (by omega), ?_⟩)
    rw [nI_clamp (show p < 2 ^ 31 by omega), nI_clamp (show i < 2 ^ 31 by omega), sp_bit _ (show i < 32 by omega), ← hM p i hp hi, hl i hi]
    refine br_c (fun z => nm_r (nI_1 i) (k _ ?_)) (fun z => ⟨vp_in_nI hi (by omega), nm_e (nm_r (nI_1 i) (k _ ?_))⟩)
    · rw [h, sp_LT_t z]
    · rw [h, sp_LT_f z]
theorem xf_2 {post : SX → Prop} {co tg lo fl tr g lt0 : Nat → Int32} {l : Nat → Nat} (hM : sp_M tg g) (hl : ∀ s, s < 10 → lo s = nI (l s))
    (H : ∀ lt, (∀ p, p < 20 → lt p = sp_LT g l p 10) → post (co, tg, lo, fl, lt, tr)) :
    ∀ n i lt, i ≤ 20 → 20 - i < n → sp_P 20 i lt (fun p => sp_LT g l p 10) lt0 → wX_findLeaderTargets_2 post n (nI i) co tg lo fl lt tr := by
  refine loop_i (fun n i lt => wX_findLeaderTargets_2 post n (nI i) co tg lo fl lt tr) (fun i lt => sp_P 20 i lt (fun p => sp_LT g l p 10) lt0) 20 ?_ ?_
  · intro n lt h
    exact pk_le 20 20 (fun _ => H lt (sp_Pe h)) (fun z => absurd z (by omega))
  · intro n i lt hi h k
    exact pk_le 20 i (fun z => absurd z (by omega)) (fun _ => ⟨11, xf_12 hi hM hl (k _ (sp_Pu h rfl)) 11 0 0 (by omega) (by omega) rfl⟩)
theorem xf_m {post : SX → Prop} {co tg lo fl lt tr g : Nat → Int32} {l : Nat → Nat} (hM : sp_M tg g) (hl : ∀ s, s < 10 → lo s = nI (l s))
    (H : ∀ lt', (∀ p, p < 20 → lt' p = sp_LT g l p 10) → post (co, tg, lo, fl, lt', tr)) :
    wpX_findLeaderTargets post (co, tg, lo, fl, lt, tr) := ⟨21, xf_2 (lt0 := lt) hM hl H 21 0 lt (by omega) (by omega) (sp_P0 20 lt _)⟩
theorem xs_a {post : Int32 → Prop} {co tg lo fl lt tr g : Nat → Int32} {R : Nat → Nat → Prop} (hE : sp_E R) (hl : ∀ s, s < 10 → lo s = nI (sp_ld R s)) (hlt : ∀ p, p < 20 → lt p = sp_LT g (sp_ld R) p 10) {s t : Nat} (hs : s < 10) (ht : t < 10)
    (h1 : sp_F g R s t → post 1) (h0 : ¬ sp_F g R s t → post 0) : wpX_staysAlike post (co, tg, lo, fl, lt, tr) (nI s) (nI t) := by
  have b1 := sp_ld_lt R hs
  have b2 := sp_ld_lt R ht
  have e := sp_F_iff (g := g) hE hs ht
  unfold wpX_staysAlike
  dsimp only
  rw [sp_ix3, sp_ix3, nI_clamp (show s < 2 ^ 31 by omega), nI_clamp (show t < 2 ^ 31 by omega), nI_clamp (show 10 + s < 2 ^ 31 by omega), nI_clamp (show 10 + t < 2 ^ 31 by omega), hl s hs, hl t ht, hlt s (by omega), hlt t (by omega), hlt (10 + s) (by omega), hlt (10 + t) (by omega), nI_eq (show sp_ld R s < 2 ^ 31 by omega) (show sp_ld R t < 2 ^ 31 by omega)]
  refine ⟨vp_in_nI hs (by omega), vp_in_nI ht (by omega), br_c (fun y1 => ⟨vp_in_nI (by omega) (by omega), vp_in_nI (by omega) (by omega), br_c (fun y2 => ⟨vp_in_nI (by omega) (by omega), vp_in_nI (by omega) (by omega), br_c (fun y3 => h1 (e.mpr ⟨y1, y2, y3⟩)) (fun y3 => h0 (fun z => y3 (e.mp z).2.2))⟩) (fun y2 => h0 (fun z => y2 (e.mp z).2.1))⟩) (fun y1 => h0 (fun z => y1 (e.mp z).1))⟩
theorem xs_10 {post : SX → Prop} {J : Int32 → (Nat → Int32) → (Nat → Int32) → (Nat → Int32) → (Nat → Int32) → (Nat → Int32) → (Nat → Int32) → Prop} {co tg lo fl lt tr g : Nat → Int32} {R : Nat → Nat → Prop} (hE : sp_E R) (hl : ∀ s, s < 10 → lo s = nI (sp_ld R s)) (hlt : ∀ p, p < 20 → lt p = sp_LT g (sp_ld R) p 10) {s : Nat} (hs : s < 10)
    (H : J (nI (s + 1)) co tg lo (upd fl s (nI (sp_ld (sp_F g R) s))) lt tr) :
    ∀ d i, i + d = s → (∀ j, j < i → ¬ sp_F g R j s) → ∀ n, d < n → wX_splitBySteps_10 post J (nI s) co tg lo fl lt tr n (nI i) := by
  intro d
  induction d with
  | zero =>
    intro i hi h n hn
    obtain ⟨m, rfl⟩ : ∃ m, n = m + 1 := ⟨n - 1, by omega⟩
    have e : sp_ld (sp_F g R) s = i := sp_ld_eq (by omega) (Or.inl (by omega)) h
    refine pk_le s i (fun _ => ⟨vp_in_nI hs (by omega), ?_⟩) (fun z => absurd z (by omega))
    rw [nI_clamp (show s < 2 ^ 31 by omega), ← e]
    exact nm_e (nm_r (nI_1 s) H)
  | succ d ih =>
    intro i hi h n hn
    obtain ⟨m, rfl⟩ : ∃ m, n = m + 1 := ⟨n - 1, by omega⟩
    refine pk_le s i (fun z => absurd z (by omega)) (fun _ => xs_a hE hl hlt (show i < 10 by omega) hs (fun z => br_f (by decide) ⟨vp_in_nI hs (by omega), ?_⟩) (fun z => br_t rfl (nm_r (nI_1 i) (ih (i + 1) (by omega) (fun j hj => ?_) m (by omega)))))
    · have e : sp_ld (sp_F g R) s = i := sp_ld_eq (by omega) (Or.inr z) h
      rw [nI_clamp (show s < 2 ^ 31 by omega), ← e]
      exact nm_e (nm_r (nI_1 s) H)
    · by_cases y : j = i
      · subst y
        exact z
      · exact h j (by omega)
theorem xs_2 {post : SX → Prop} {co tg lo lt tr g fl0 : Nat → Int32} {R : Nat → Nat → Prop} (hE : sp_E R) (hl : ∀ s, s < 10 → lo s = nI (sp_ld R s)) (hlt : ∀ p, p < 20 → lt p = sp_LT g (sp_ld R) p 10)
    (H : ∀ fl, (∀ s, s < 10 → fl s = nI (sp_ld (sp_F g R) s)) → post (co, tg, lo, fl, lt, tr)) :
    ∀ n i fl, i ≤ 10 → 10 - i < n → sp_P 10 i fl (fun s => nI (sp_ld (sp_F g R) s)) fl0 → wX_splitBySteps_2 post n (nI i) co tg lo fl lt tr := by
  refine loop_i (fun n i fl => wX_splitBySteps_2 post n (nI i) co tg lo fl lt tr) (fun i fl => sp_P 10 i fl (fun s => nI (sp_ld (sp_F g R) s)) fl0) 10 ?_ ?_
  · intro n fl h
    exact pk_le 10 10 (fun _ => H fl (sp_Pe h)) (fun z => absurd z (by omega))
  · intro n i fl hi h k
    exact pk_le 10 i (fun z => absurd z (by omega)) (fun _ => ⟨11, xs_10 hE hl hlt hi (k _ (sp_Pu h rfl)) i 0 (by omega) (fun j hj => absurd hj (Nat.not_lt_zero j)) 11 (by omega)⟩)
theorem xs_m {post : SX → Prop} {co tg lo fl lt tr g : Nat → Int32} {R : Nat → Nat → Prop} (hE : sp_E R) (hl : ∀ s, s < 10 → lo s = nI (sp_ld R s)) (hlt : ∀ p, p < 20 → lt p = sp_LT g (sp_ld R) p 10)
    (H : ∀ fl', (∀ s, s < 10 → fl' s = nI (sp_ld (sp_F g R) s)) → post (co, tg, lo, fl', lt, tr)) :
    wpX_splitBySteps post (co, tg, lo, fl, lt, tr) := ⟨11, xs_2 (fl0 := fl) hE hl hlt H 11 0 fl (by omega) (by omega) (sp_P0 10 fl _)⟩
theorem xt_6 {post : SX → Prop} {co tg g : Nat → Int32} (hM : sp_M tg g)
    (H : ∀ lo fl lt tr, (∀ s, s < 10 → lo s = nI (sp_ld (sp_A co g 10) s)) → (∀ p, p < 20 → lt p = sp_LT g (sp_ld (sp_A co g 9)) p 10) → (∀ q, q < 100 → tr q = sp_T co g q 11) → post (co, tg, lo, fl, lt, tr)) :
    ∀ d j lo fl lt tr, j + d = 10 → (∀ s, s < 10 → lo s = nI (sp_ld (sp_A co g j) s)) → (j = 0 ∨ ∀ p, p < 20 → lt p = sp_LT g (sp_ld (sp_A co g (j - 1))) p 10) → (∀ q, q < 100 → tr q = sp_T co g q (j + 1)) → wX_settle_6 post (d + 1) (nI (j + 1)) co tg lo fl lt tr := by
  intro d
  induction d with
  | zero =>
    intro j lo fl lt tr hj hl ht hT
    have e : j = 10 := by omega
    subst e
    refine pk_lt 10 11 (fun _ => H lo fl lt tr hl ?_ hT) (fun z => absurd z (by omega))
    rcases ht with z | z
    · omega
    · exact z
  | succ d ih =>
    intro j lo fl lt tr hj hl ht hT
    refine pk_lt 10 (j + 1) (fun z => absurd z (by omega)) (fun _ => ?_)
    refine xf_m (g := g) (l := sp_ld (sp_A co g j)) hM hl (fun lt' hlt => ?_)
    refine xs_m (g := g) (R := sp_A co g j) (sp_A_E co g j) hl hlt (fun fl' hfl => ?_)
    refine xa_k (c := co) (g := g) (k := j + 1) hfl hT (fun lo' tr' hlo htr => ?_)
    exact nm_r (nI_1 (j + 1)) (ih (j + 1) lo' fl' lt' tr' (by omega) hlo (Or.inr hlt) htr)
theorem xt_m {post : SX → Prop} {co tg lo fl lt tr g : Nat → Int32} (hM : sp_M tg g)
    (H : ∀ lo fl lt tr, (∀ s, s < 10 → lo s = nI (sp_ld (sp_A co g 10) s)) → (∀ p, p < 20 → lt p = sp_LT g (sp_ld (sp_A co g 9)) p 10) → (∀ q, q < 100 → tr q = sp_T co g q 11) → post (co, tg, lo, fl, lt, tr)) :
    wpX_settle post (co, tg, lo, fl, lt, tr) := by
  unfold wpX_settle
  dsimp only
  refine xc_m (g := g) (fun lo' fl' tr' h1 h2 => ?_)
  exact ⟨11, xt_6 hM H 10 0 lo' fl' lt tr' (by omega) h1 (Or.inl rfl) h2⟩
theorem xt_K {post : SX → Prop} {co tg lo fl lt tr g : Nat → Int32} {K : Nat} (hK : K ≤ 9) (hst : sp_st co g K) (hM : sp_M tg g)
    (H : ∀ lo fl lt tr, (∀ s, s < 10 → lo s = nI (sp_ld (sp_A co g K) s)) → (∀ p, p < 20 → lt p = sp_LT g (sp_ld (sp_A co g K)) p 10) → (∀ q, q < 100 → tr q = sp_T co g q 11) → post (co, tg, lo, fl, lt, tr)) :
    wpX_settle post (co, tg, lo, fl, lt, tr) := by
  refine xt_m hM (fun lo' fl' lt' tr' h1 h2 h3 => H lo' fl' lt' tr' (fun s hs => ?_) (fun p hp => ?_) h3)
  · rw [h1 s hs, sp_ld_S (sp_st_up hst 10 (by omega)) hs]
  · rw [h2 p hp]
    exact sp_LT_congr p 10 (fun t ht => sp_ld_S (sp_st_up hst 9 (by omega)) ht)
end
section
theorem yb_2 {post : SY → Prop} {c g af nw0 : Nat → Int32} (H : ∀ nw, sp_Rep nw (sp_A c g 0) → post (c, g, nw, af)) :
    ∀ n i nw, i ≤ 100 → 100 - i < n → sp_P 100 i nw (fun p => sp_B (sp_A c g 0 (p / 10) (p % 10))) nw0 → wY_begin_2 post n (nI i) c g nw af := by
  refine loop_i (fun n i nw => wY_begin_2 post n (nI i) c g nw af) (fun i nw => sp_P 100 i nw (fun p => sp_B (sp_A c g 0 (p / 10) (p % 10))) nw0) 100 ?_ ?_
  · intro n nw h
    exact pk_le 100 100 (fun _ => H nw (sp_Pe h)) (fun z => absurd z (by omega))
  · intro n i nw hi h k
    refine pk_le 100 i (fun z => absurd z (by omega)) (fun _ => ?_)
    rw [sp_r10 hi, sp_d10 hi, nI_clamp (show i / 10 < 2 ^ 31 by omega), nI_clamp (show i % 10 < 2 ^ 31 by omega), nI_clamp (show i < 2 ^ 31 by omega)]
    refine ⟨by decide, vp_in_nI (by omega) (by omega), by decide, vp_in_nI (by omega) (by omega), br_c (fun z => ⟨vp_in_nI hi (by omega), nm_e (nm_r (nI_1 i) (k _ (sp_Pu h ?_)))⟩) (fun z => ⟨vp_in_nI hi (by omega), nm_e (nm_r (nI_1 i) (k _ (sp_Pu h ?_)))⟩)⟩
    · exact sp_nar1.trans (sp_B_t (P := sp_A c g 0 (i / 10) (i % 10)) z).symm
    · exact sp_nar0.trans (sp_B_f (P := sp_A c g 0 (i / 10) (i % 10)) z).symm
theorem yb_m {post : SY → Prop} {c g nw af : Nat → Int32} (H : ∀ nw', sp_Rep nw' (sp_A c g 0) → post (c, g, nw', af)) : wpY_begin post (c, g, nw, af) :=
  ⟨101, yb_2 (nw0 := nw) H 101 0 nw (by omega) (by omega) (sp_P0 100 nw _)⟩
def sp_D (P : Prop) (Q : Nat → Prop) (i : Nat) : Prop := P ∨ ∃ b, b < i ∧ Q b
theorem sp_D_s {P : Prop} {Q : Nat → Prop} {i : Nat} : sp_D P Q (i + 1) ↔ sp_D P Q i ∨ Q i := by
  constructor
  · rintro (h | ⟨b, hb, hq⟩)
    · exact Or.inl (Or.inl h)
    · by_cases e : b = i
      · subst e
        exact Or.inr hq
      · exact Or.inl (Or.inr ⟨b, by omega, hq⟩)
  · rintro ((h | ⟨b, hb, hq⟩) | h)
    · exact Or.inl h
    · exact Or.inr ⟨b, by omega, hq⟩
    · exact Or.inr ⟨i, by omega, h⟩
theorem ya_40 {post : Int32 → Prop} {J : Int32 → Prop} {c g nw af : Nat → Int32} {R : Nat → Nat → Prop} (hR : sp_Rep nw R) {o s t a : Nat} (ho : o < 2) (ht : t < 10) (ha : a < 10) {P : Prop}
    (H1 : sp_D P (fun b => ¬ g ((o * 10 + t) * 10 + b) = 0 ∧ R a b) 10 → J (nI (a + 1))) (H0 : ¬ sp_D P (fun b => ¬ g ((o * 10 + t) * 10 + b) = 0 ∧ R a b) 10 → post 0) :
    ∀ n i x, i ≤ 10 → 10 - i < n → x = sp_B (sp_D P (fun b => ¬ g ((o * 10 + t) * 10 + b) = 0 ∧ R a b) i) → wY_answered_40 post J (nI o) (nI s) (nI t) (nI a) c g nw af n x (nI i) := by
  refine loop_i (fun n i x => wY_answered_40 post J (nI o) (nI s) (nI t) (nI a) c g nw af n x (nI i)) (fun i x => x = sp_B (sp_D P (fun b => ¬ g ((o * 10 + t) * 10 + b) = 0 ∧ R a b) i)) 10 ?_ ?_
  · intro n x h
    exact pk_le 10 10 (fun _ => br_c (fun z => H0 (sp_B_0.mp (h.symm.trans z))) (fun z => nm_r (nI_1 a) (H1 (Classical.byContradiction (fun w => z (h.trans (sp_B_f w))))))) (fun z => absurd z (by omega))
  · intro n i x hi h k
    refine pk_le 10 i (fun z => absurd z (by omega)) (fun _ => ?_)
    rw [sp_ix2 o t i, sp_ix a i, nI_clamp (show (o * 10 + t) * 10 + i < 2 ^ 31 by omega), nI_clamp (show a * 10 + i < 2 ^ 31 by omega), sp_Rep_at hR ha hi]
    refine br_c (fun z => ⟨vp_in_nI (by omega) (by omega), br_c (fun y => nm_r (nI_1 i) (k _ ?_)) (fun y => ⟨vp_in_nI (by omega) (by omega), br_c (fun w => nm_r (nI_1 i) (k _ ?_)) (fun w => nm_r (nI_1 i) (k _ ?_))⟩)⟩) (fun z => nm_r (nI_1 i) (k _ ?_))
    · have hd := sp_B_0.mp (h.symm.trans z)
      refine (sp_B_f (fun q => ?_)).symm
      rcases sp_D_s.mp q with q | q
      · exact hd q
      · exact q.1 y
    · have hd := sp_B_0.mp (h.symm.trans z)
      refine (sp_B_f (fun q => ?_)).symm
      rcases sp_D_s.mp q with q | q
      · exact hd q
      · exact sp_B_0.mp w q.2
    · exact (sp_B_t (sp_D_s.mpr (Or.inr ⟨y, Classical.byContradiction (fun q => w (sp_B_f q))⟩))).symm
    · exact (sp_B_t (sp_D_s.mpr (Or.inl (Classical.byContradiction (fun q => z (h.trans (sp_B_f q))))))).symm
theorem ya_3 {post : Int32 → Prop} {c g nw af : Nat → Int32} {R : Nat → Nat → Prop} (hR : sp_Rep nw R) {o s t : Nat} (ho : o < 2) (hs : s < 10) (ht : t < 10)
    (H1 : sp_Ans g R (o * 10 + s) (o * 10 + t) → post 1) (H0 : ¬ sp_Ans g R (o * 10 + s) (o * 10 + t) → post 0) :
    ∀ n i (_ : Unit), i ≤ 10 → 10 - i < n → (∀ a, a < i → ¬ g ((o * 10 + s) * 10 + a) = 0 → ∃ b, b < 10 ∧ ¬ g ((o * 10 + t) * 10 + b) = 0 ∧ R a b) → wY_answered_3 post (nI o) (nI s) (nI t) c g nw af n (nI i) := by
  refine loop_i (σ := Unit) (fun n i _ => wY_answered_3 post (nI o) (nI s) (nI t) c g nw af n (nI i)) (fun i _ => ∀ a, a < i → ¬ g ((o * 10 + s) * 10 + a) = 0 → ∃ b, b < 10 ∧ ¬ g ((o * 10 + t) * 10 + b) = 0 ∧ R a b) 10 ?_ ?_
  · intro n _ h
    exact pk_le 10 10 (fun _ => H1 h) (fun z => absurd z (by omega))
  · intro n i _ hi h k
    refine pk_le 10 i (fun z => absurd z (by omega)) (fun _ => ?_)
    rw [sp_ix2 o s i, nI_clamp (show (o * 10 + s) * 10 + i < 2 ^ 31 by omega)]
    have a1 : sp_D (g ((o * 10 + s) * 10 + i) = 0) (fun b => ¬ g ((o * 10 + t) * 10 + b) = 0 ∧ R i b) 10 → wY_answered_3 post (nI o) (nI s) (nI t) c g nw af n (nI (i + 1)) := by
      intro d
      refine k () (fun a ha hg => ?_)
      by_cases e : a = i
      · subst e
        rcases d with d | d
        · exact absurd d hg
        · exact d
      · exact h a (by omega) hg
    have a0 : ¬ sp_D (g ((o * 10 + s) * 10 + i) = 0) (fun b => ¬ g ((o * 10 + t) * 10 + b) = 0 ∧ R i b) 10 → post 0 := by
      intro d
      refine H0 (fun A => d ?_)
      by_cases e : g ((o * 10 + s) * 10 + i) = 0
      · exact Or.inl e
      · exact Or.inr (A i hi e)
    refine ⟨vp_in_nI (by omega) (by omega), br_c (fun z => ⟨11, ya_40 hR ho ht hi a1 a0 11 0 1 (by omega) (by omega) (sp_B_t (Or.inl z)).symm⟩) (fun z => ⟨11, ya_40 hR ho ht hi a1 a0 11 0 0 (by omega) (by omega) (sp_B_f ?_).symm⟩)⟩
    rintro (q | ⟨b, hb, _⟩)
    · exact z q
    · omega
theorem ya_m {post : Int32 → Prop} {c g nw af : Nat → Int32} {R : Nat → Nat → Prop} (hR : sp_Rep nw R) {o s t p q : Nat} (ho : o < 2) (hs : s < 10) (ht : t < 10) (ep : o * 10 + s = p) (eq : o * 10 + t = q)
    (H1 : sp_Ans g R p q → post 1) (H0 : ¬ sp_Ans g R p q → post 0) : wpY_answered post (c, g, nw, af) (nI o) (nI s) (nI t) := by
  subst ep eq
  exact ⟨11, ya_3 hR ho hs ht H1 H0 11 0 () (by omega) (by omega) (fun a ha => absurd ha (Nat.not_lt_zero a))⟩
theorem yr_84 {post : Int32 → SY → Prop} {J : Int32 → Int32 → (Nat → Int32) → (Nat → Int32) → (Nat → Int32) → (Nat → Int32) → Prop} {c g nw af : Nat → Int32} {R : Nat → Nat → Prop} (hR : sp_Rep nw R) {i : Nat} (hi : i < 100) {x z : Int32} (hz : z = sp_B (sp_F g R (i / 10) (i % 10)))
    (Hs : ¬ (R (i / 10) (i % 10) ∧ ¬ sp_F g R (i / 10) (i % 10)) → J x (nI (i + 1)) c g nw (upd af i z))
    (Hc : (R (i / 10) (i % 10) ∧ ¬ sp_F g R (i / 10) (i % 10)) → J 1 (nI (i + 1)) c g nw (upd af i z)) : wY_round_84 post J x (nI i) z (nI i) c g nw af := by
  unfold wY_round_84
  rw [nI_clamp (show i < 2 ^ 31 by omega)]
  have e : upd af i (vp_nar .boolean z) = upd af i z := by rw [hz, sp_B_v]
  refine ⟨vp_in_nI hi (by omega), nm_r e ⟨vp_in_nI hi (by omega), vp_in_nI hi (by omega), ?_⟩⟩
  rw [pk_us, hR i hi]
  refine br_c (fun y => nm_r (nI_1 i) (Hs (fun w => ?_))) (fun y => nm_r (nI_1 i) (Hc ?_))
  · rw [hz, sp_B_f w.2, sp_B_t w.1] at y
    exact absurd y (by decide)
  · refine ⟨Classical.byContradiction (fun w => y ?_), fun w => y ?_⟩
    · rw [hz, sp_B_f w, sp_B_f (fun q => w q.1)]
    · rw [hz, sp_B_t w, sp_B_t w.1]
theorem yr_110 {post : Int32 → SY → Prop} {c g af nw0 : Nat → Int32} {R' : Nat → Nat → Prop} (ha : ∀ q, q < 100 → af q = sp_B (R' (q / 10) (q % 10))) {P : Prop}
    (H : ∀ nw, sp_Rep nw R' → post (sp_B P) (c, g, nw, af)) :
    ∀ n i nw, i ≤ 100 → 100 - i < n → sp_P 100 i nw (fun q => sp_B (R' (q / 10) (q % 10))) nw0 → wY_round_110 post (sp_B P) n (nI i) c g nw af := by
  refine loop_i (fun n i nw => wY_round_110 post (sp_B P) n (nI i) c g nw af) (fun i nw => sp_P 100 i nw (fun q => sp_B (R' (q / 10) (q % 10))) nw0) 100 ?_ ?_
  · intro n nw h
    exact pk_le 100 100 (fun _ => ⟨sp_B_n P, H nw (sp_Pe h)⟩) (fun z => absurd z (by omega))
  · intro n i nw hi h k
    refine pk_le 100 i (fun z => absurd z (by omega)) (fun _ => ⟨vp_in_nI hi (by omega), vp_in_nI hi (by omega), ?_⟩)
    rw [nI_clamp (show i < 2 ^ 31 by omega), ha i hi, sp_B_v]
    exact nm_e (nm_r (nI_1 i) (k _ (sp_Pu h rfl)))
theorem yr_4 {post : Int32 → SY → Prop} {c g nw af0 : Nat → Int32} {R : Nat → Nat → Prop} (hR : sp_Rep nw R)
    (H : ∀ nw' af', sp_Rep nw' (sp_F g R) → post (sp_B (sp_D False (fun q => R (q / 10) (q % 10) ∧ ¬ sp_F g R (q / 10) (q % 10)) 100)) (c, g, nw', af')) :
    ∀ n i (y : Int32 × (Nat → Int32)), i ≤ 100 → 100 - i < n → (y.1 = sp_B (sp_D False (fun q => R (q / 10) (q % 10) ∧ ¬ sp_F g R (q / 10) (q % 10)) i) ∧ sp_P 100 i y.2 (fun q => sp_B (sp_F g R (q / 10) (q % 10))) af0) → wY_round_4 post n y.1 (nI i) c g nw y.2 := by
  refine loop_i (σ := Int32 × (Nat → Int32)) (fun n i y => wY_round_4 post n y.1 (nI i) c g nw y.2) (fun i y => y.1 = sp_B (sp_D False (fun q => R (q / 10) (q % 10) ∧ ¬ sp_F g R (q / 10) (q % 10)) i) ∧ sp_P 100 i y.2 (fun q => sp_B (sp_F g R (q / 10) (q % 10))) af0) 100 ?_ ?_
  · intro n y h
    obtain ⟨x, af⟩ := y
    obtain ⟨h1, h2⟩ := h
    have h1 : x = sp_B (sp_D False (fun q => R (q / 10) (q % 10) ∧ ¬ sp_F g R (q / 10) (q % 10)) 100) := h1
    subst h1
    exact pk_le 100 100 (fun _ => ⟨101, yr_110 (nw0 := nw) (R' := sp_F g R) (sp_Pe h2) (fun nw' h' => H nw' af h') 101 0 nw (by omega) (by omega) (sp_P0 100 nw _)⟩) (fun z => absurd z (by omega))
  · intro n i y hi h k
    obtain ⟨x, af⟩ := y
    obtain ⟨h1, h2⟩ := h
    have h1 : x = sp_B (sp_D False (fun q => R (q / 10) (q % 10) ∧ ¬ sp_F g R (q / 10) (q % 10)) i) := h1
    have h2 : sp_P 100 i af (fun q => sp_B (sp_F g R (q / 10) (q % 10))) af0 := h2
    have a1 : i / 10 < 10 := by omega
    have a2 : i % 10 < 10 := by omega
    have key : ∀ z, z = sp_B (sp_F g R (i / 10) (i % 10)) → wY_round_84 post (wY_round_4 post n) x (nI i) z (nI i) c g nw af := by
      intro z hz
      refine yr_84 hR hi hz (fun w => k (x, upd af i z) ⟨?_, sp_Pu h2 hz⟩) (fun w => k (1, upd af i z) ⟨?_, sp_Pu h2 hz⟩)
      · show x = _
        rw [h1]
        refine sp_B_c ⟨fun q => sp_D_s.mpr (Or.inl q), fun q => ?_⟩
        rcases sp_D_s.mp q with q | q
        · exact q
        · exact absurd q w
      · exact (sp_B_t (sp_D_s.mpr (Or.inr w))).symm
    have k0 : ¬ sp_F g R (i / 10) (i % 10) → wY_round_83 post (wY_round_4 post n) x (nI i) (nI i) c g nw af := fun w => key 0 (sp_B_f w).symm
    refine pk_le 100 i (fun z => absurd z (by omega)) (fun _ => ⟨by decide, nm_r (sp_d10 hi) ⟨by decide, nm_r (sp_r10 hi) ⟨vp_in_nI hi (by omega), ?_⟩⟩⟩)
    rw [nI_clamp (show i < 2 ^ 31 by omega), hR i hi]
    refine br_c (fun z => k0 (fun w => sp_B_0.mp z w.1)) (fun z => ?_)
    refine ya_m (o := 0) hR (by omega) a1 a2 (show 0 * 10 + i / 10 = i / 10 by omega) (show 0 * 10 + i % 10 = i % 10 by omega) (fun w1 => br_f (by decide) ?_) (fun w => br_t rfl (k0 (fun q => w q.2.1)))
    refine ya_m (o := 0) hR (by omega) a2 a1 (show 0 * 10 + i % 10 = i % 10 by omega) (show 0 * 10 + i / 10 = i / 10 by omega) (fun w2 => br_f (by decide) ?_) (fun w => br_t rfl (k0 (fun q => w q.2.2.1)))
    refine ya_m (o := 1) hR (by omega) a1 a2 (show 1 * 10 + i / 10 = 10 + i / 10 by omega) (show 1 * 10 + i % 10 = 10 + i % 10 by omega) (fun w3 => br_f (by decide) ?_) (fun w => br_t rfl (k0 (fun q => w q.2.2.2.1)))
    refine ya_m (o := 1) hR (by omega) a2 a1 (show 1 * 10 + i % 10 = 10 + i % 10 by omega) (show 1 * 10 + i / 10 = 10 + i / 10 by omega) (fun w4 => br_f (by decide) ?_) (fun w => br_t rfl (k0 (fun q => w q.2.2.2.2)))
    exact key 1 (sp_B_t ⟨Classical.byContradiction (fun q => z (sp_B_f q)), w1, w2, w3, w4⟩).symm
theorem yr_m {post : Int32 → SY → Prop} {c g nw af : Nat → Int32} {R : Nat → Nat → Prop} (hR : sp_Rep nw R)
    (H : ∀ nw' af', sp_Rep nw' (sp_F g R) → post (sp_B (sp_D False (fun q => R (q / 10) (q % 10) ∧ ¬ sp_F g R (q / 10) (q % 10)) 100)) (c, g, nw', af')) : wpY_round post (c, g, nw, af) := by
  refine ⟨101, yr_4 (af0 := af) hR H 101 0 (0, af) (by omega) (by omega) ⟨?_, sp_P0 100 af _⟩⟩
  refine (sp_B_f ?_).symm
  rintro (q | ⟨b, hb, _⟩)
  · exact q
  · omega
theorem yr_k {post : Int32 → SY → Prop} {c g nw af : Nat → Int32} {k : Nat} (hR : sp_Rep nw (sp_A c g k))
    (H1 : ¬ sp_st c g k → ∀ nw' af', sp_Rep nw' (sp_A c g (k + 1)) → post 1 (c, g, nw', af'))
    (H0 : sp_st c g k → ∀ nw' af', sp_Rep nw' (sp_A c g (k + 1)) → post 0 (c, g, nw', af')) : wpY_round post (c, g, nw, af) := by
  refine yr_m hR (fun nw' af' h => ?_)
  by_cases e : sp_st c g k
  · rw [sp_B_f ?_]
    · exact H0 e nw' af' h
    · rintro (q | ⟨b, hb, q1, q2⟩)
      · exact q
      · exact q2 (e _ _ (by omega) (by omega) q1)
  · rw [sp_B_t ?_]
    · exact H1 e nw' af' h
    · refine Classical.byContradiction (fun w => e (fun s t hs ht hA => Classical.byContradiction (fun q => w (Or.inr ⟨s * 10 + t, by omega, ?_⟩))))
      show sp_A c g k ((s * 10 + t) / 10) ((s * 10 + t) % 10) ∧ ¬ sp_F g (sp_A c g k) ((s * 10 + t) / 10) ((s * 10 + t) % 10)
      rw [show (s * 10 + t) / 10 = s by omega, show (s * 10 + t) % 10 = t by omega]
      exact ⟨hA, q⟩
theorem yt_6 {post : Int32 → SY → Prop} {c g : Nat → Int32} {K : Nat} (hK : K ≤ 9) (hst : sp_st c g K) (hm : ∀ j, j < K → ¬ sp_st c g j)
    (H : ∀ nw af, sp_Rep nw (sp_A c g K) → post (nI K) (c, g, nw, af)) :
    ∀ d k nw af, k + d = K → sp_Rep nw (sp_A c g k) → wY_settle_6 post (d + 1) (nI k) c g nw af := by
  intro d
  induction d with
  | zero =>
    intro k nw af hk hR
    have e : k = K := by omega
    subst e
    exact pk_le 100 k (fun z => absurd z (by omega)) (fun _ => yr_k hR (fun z => absurd hst z) (fun _ nw' af' h => br_t rfl (H nw' af' (sp_Rep_S h (sp_st_S hst)))))
  | succ d ih =>
    intro k nw af hk hR
    exact pk_le 100 k (fun z => absurd z (by omega)) (fun _ => yr_k hR (fun _ nw' af' h => br_f (by decide) (nm_r (nI_1 k) (ih (k + 1) nw' af' (by omega) h))) (fun z => absurd z (hm k (by omega))))
theorem yt_m {post : Int32 → SY → Prop} {c g nw af : Nat → Int32} {K : Nat} (hK : K ≤ 9) (hst : sp_st c g K) (hm : ∀ j, j < K → ¬ sp_st c g j)
    (H : ∀ nw' af', sp_Rep nw' (sp_A c g K) → post (nI K) (c, g, nw', af')) : wpY_settle post (c, g, nw, af) := by
  unfold wpY_settle
  dsimp only
  exact yb_m (fun nw' h => ⟨K + 1, yt_6 hK hst hm H K 0 nw' af (by omega) h⟩)
theorem yl_2 {post : Int32 → Prop} {c g nw af : Nat → Int32} {R : Nat → Nat → Prop} (hE : sp_E R) (hR : sp_Rep nw R) {s : Nat} (hs : s < 10) (H : post (nI (sp_ld R s))) :
    ∀ d i, i + d = s → (∀ j, j < i → ¬ R j s) → ∀ n, d < n → wY_leaderNow_2 post (nI s) c g nw af n (nI i) := by
  intro d
  induction d with
  | zero =>
    intro i hi h n hn
    obtain ⟨m, rfl⟩ : ∃ m, n = m + 1 := ⟨n - 1, by omega⟩
    have e : sp_ld R s = i := sp_ld_eq (by omega) (Or.inl (by omega)) h
    rw [e] at H
    exact pk_le s i (fun _ => H) (fun z => absurd z (by omega))
  | succ d ih =>
    intro i hi h n hn
    obtain ⟨m, rfl⟩ : ∃ m, n = m + 1 := ⟨n - 1, by omega⟩
    refine pk_le s i (fun z => absurd z (by omega)) (fun _ => ?_)
    rw [sp_ix s i, nI_clamp (show s * 10 + i < 2 ^ 31 by omega), sp_Rep_at hR hs (show i < 10 by omega)]
    refine ⟨vp_in_nI (by omega) (by omega), br_c (fun z => nm_r (nI_1 i) (ih (i + 1) (by omega) (fun j hj => ?_) m (by omega))) (fun z => ?_)⟩
    · by_cases y : j = i
      · subst y
        exact fun w => sp_B_0.mp z (hE.2.1 _ _ (by omega) hs w)
      · exact h j (by omega)
    · have r : R s i := Classical.byContradiction (fun q => z (sp_B_f q))
      have e : sp_ld R s = i := sp_ld_eq (by omega) (Or.inr (hE.2.1 _ _ hs (by omega) r)) h
      rw [e] at H
      exact H
theorem yl_m {post : Int32 → Prop} {c g nw af : Nat → Int32} {R : Nat → Nat → Prop} (hE : sp_E R) (hR : sp_Rep nw R) {s : Nat} (hs : s < 10) (H : post (nI (sp_ld R s))) : wpY_leaderNow post (c, g, nw, af) (nI s) :=
  ⟨s + 1, yl_2 hE hR hs H s 0 (by omega) (fun j hj => absurd hj (Nat.not_lt_zero j)) (s + 1) (by omega)⟩
end
section
theorem st_x {s : Nat} (hs : s < 10) {post : Int32 → Prop} (h : post 1) : wpX_isState post (nI s) := pk_lt s 0 (fun z => absurd z (by omega)) (fun _ => pk_le 10 s (fun z => absurd z (by omega)) (fun _ => h))
theorem st_y {s : Nat} (hs : s < 10) {post : Int32 → Prop} {c g n m : Nat → Int32} (h : post 1) : wpY_isState post (c, g, n, m) (nI s) := pk_lt s 0 (fun z => absurd z (by omega)) (fun _ => pk_le 10 s (fun z => absurd z (by omega)) (fun _ => h))
theorem st_cases (x : Int32) : (∃ s, s < 10 ∧ x = nI s) ∨ ((∀ post : Int32 → Prop, post 0 → wpX_isState post x) ∧ (∀ (post : Int32 → Prop) (c g n m : Nat → Int32), post 0 → wpY_isState post (c, g, n, m) x)) := by
  by_cases h0 : x < 0
  · exact Or.inr ⟨fun post h => br_t h0 h, fun post c g n m h => br_t h0 h⟩
  · obtain ⟨j, hj, rfl⟩ := nI_of h0
    by_cases h1 : j < 10
    · exact Or.inl ⟨j, h1, rfl⟩
    · exact Or.inr ⟨fun post h => br_f h0 (pk_le 10 j (fun _ => h) (fun z => absurd z (by omega))), fun post c g n m h => br_f h0 (pk_le 10 j (fun _ => h) (fun z => absurd z (by omega)))⟩
theorem so_x {o : Nat} (ho : o < 2) {post : Int32 → Prop} (h : post 1) : wpX_isSort post (nI o) := pk_lt o 0 (fun z => absurd z (by omega)) (fun _ => pk_le 2 o (fun z => absurd z (by omega)) (fun _ => h))
theorem so_y {o : Nat} (ho : o < 2) {A B C : Prop} (h : C) : (nI o < 0 → A) ∧ (¬ nI o < 0 → ((1 < nI o → B) ∧ (¬ 1 < nI o → C))) := pk_lt o 0 (fun z => absurd z (by omega)) (fun _ => pk_lt 1 o (fun z => absurd z (by omega)) (fun _ => h))
theorem so_cases (x : Int32) : (∃ o, o < 2 ∧ x = nI o) ∨ ((∀ post : Int32 → Prop, post 0 → wpX_isSort post x) ∧ (∀ A C : Prop, A → (x < 0 → A) ∧ (¬ x < 0 → ((1 < x → A) ∧ (¬ 1 < x → C))))) := by
  by_cases h0 : x < 0
  · exact Or.inr ⟨fun post h => br_t h0 h, fun A C h => br_t h0 h⟩
  · obtain ⟨j, hj, rfl⟩ := nI_of h0
    by_cases h1 : j < 2
    · exact Or.inl ⟨j, h1, rfl⟩
    · exact Or.inr ⟨fun post h => br_f h0 (pk_le 2 j (fun _ => h) (fun z => absurd z (by omega))), fun A C h => br_f h0 (pk_lt 1 j (fun _ => h) (fun z => absurd z (by omega)))⟩
theorem xm_alike {post : Int32 → SX → Prop} {c a l f t r g : Nat → Int32} {K : Nat} (hK : K ≤ 9) (hst : sp_st c g K) (hM : sp_M a g) {s u : Nat} (hs : s < 10) (hu : u < 10)
    (H : ∀ l f t r, post (sp_B (sp_A c g K s u)) (c, a, l, f, t, r)) : wpX_alike post (c, a, l, f, t, r) (nI s) (nI u) := by
  unfold wpX_alike
  dsimp only
  refine st_x hs (br_f (by decide) (st_x hu (br_f (by decide) ?_)))
  refine xt_K hK hst hM (fun lo fl lt tr h1 h2 h3 => ?_)
  have b1 := sp_ld_lt (sp_A c g K) hs
  have b2 := sp_ld_lt (sp_A c g K) hu
  have e := sp_ld_iff (sp_A_E c g K) hs hu
  dsimp only
  rw [nI_clamp (show s < 2 ^ 31 by omega), nI_clamp (show u < 2 ^ 31 by omega), h1 s hs, h1 u hu, nI_eq (by omega) (by omega), e]
  have H' := H lo fl lt tr
  refine ⟨vp_in_nI hs (by omega), vp_in_nI hu (by omega), br_c (fun z => ?_) (fun z => ?_)⟩
  · rw [sp_B_t z] at H'
    exact H'
  · rw [sp_B_f z] at H'
    exact H'
theorem ym_alike {post : Int32 → SY → Prop} {c g n m : Nat → Int32} {K : Nat} (hK : K ≤ 9) (hst : sp_st c g K) (hm : ∀ j, j < K → ¬ sp_st c g j) {s u : Nat} (hs : s < 10) (hu : u < 10)
    (H : ∀ n m, post (sp_B (sp_A c g K s u)) (c, g, n, m)) : wpY_alike post (c, g, n, m) (nI s) (nI u) := by
  unfold wpY_alike
  dsimp only
  refine st_y hs (br_f (by decide) (st_y hu (br_f (by decide) ?_)))
  refine yt_m hK hst hm (fun nw af hR => ?_)
  dsimp only
  rw [sp_ix s u, nI_clamp (show s * 10 + u < 2 ^ 31 by omega), sp_Rep_at hR hs hu]
  exact ⟨vp_in_nI (by omega) (by omega), sp_B_n _, H nw af⟩
theorem xm_classes {post : Int32 → SX → Prop} {c a l f t r g : Nat → Int32} {K : Nat} (hK : K ≤ 9) (hst : sp_st c g K) (hM : sp_M a g)
    (H : ∀ l f t r, post (nI (sp_cnt (sp_ld (sp_A c g K)) 10)) (c, a, l, f, t, r)) : wpX_classes post (c, a, l, f, t, r) := by
  unfold wpX_classes
  dsimp only
  refine xt_K hK hst hM (fun lo fl lt tr h1 h2 h3 => ?_)
  refine loop_0 (fun n i x => wX_classes_8 post c a lo fl lt tr n x (nI i)) (fun i x => x = nI (sp_cnt (sp_ld (sp_A c g K)) i)) 10 0 rfl ?_ ?_
  · intro n x h
    rw [h]
    exact pk_le 10 10 (fun _ => H lo fl lt tr) (fun z => absurd z (by omega))
  · intro n i x hi h k
    have b1 := sp_ld_lt (sp_A c g K) hi
    refine pk_le 10 i (fun z => absurd z (by omega)) (fun _ => ?_)
    rw [nI_clamp (show i < 2 ^ 31 by omega), h1 i hi, nI_eq (by omega) (by omega), h]
    exact ⟨vp_in_nI hi (by omega), br_c (fun z => nm_r (nI_1 _) (nm_r (nI_1 i) (k _ (by rw [sp_cnt_t z])))) (fun z => nm_r (nI_1 i) (k _ (by rw [sp_cnt_f z])))⟩
theorem ym_leader {post : Int32 → SY → Prop} {c g n m : Nat → Int32} {K : Nat} (hK : K ≤ 9) (hst : sp_st c g K) (hm : ∀ j, j < K → ¬ sp_st c g j) {s : Nat} (hs : s < 10)
    (H : ∀ n m, post (nI (sp_ld (sp_A c g K) s)) (c, g, n, m)) : wpY_leader post (c, g, n, m) (nI s) := by
  unfold wpY_leader
  dsimp only
  refine st_y hs (br_f (by decide) ?_)
  refine yt_m hK hst hm (fun nw af hR => ?_)
  exact yl_m (sp_A_E c g K) hR hs (H nw af)
theorem xm_leader {post : Int32 → SX → Prop} {c a l f t r g : Nat → Int32} {K : Nat} (hK : K ≤ 9) (hst : sp_st c g K) (hM : sp_M a g) {s : Nat} (hs : s < 10)
    (H : ∀ l f t r, post (nI (sp_ld (sp_A c g K) s)) (c, a, l, f, t, r)) : wpX_leader post (c, a, l, f, t, r) (nI s) := by
  unfold wpX_leader
  dsimp only
  refine st_x hs (br_f (by decide) ?_)
  refine xt_K hK hst hM (fun lo fl lt tr h1 h2 h3 => ?_)
  dsimp only
  rw [nI_clamp (show s < 2 ^ 31 by omega), h1 s hs]
  exact ⟨vp_in_nI hs (by omega), H lo fl lt tr⟩
theorem ym_classes {post : Int32 → SY → Prop} {c g n m : Nat → Int32} {K : Nat} (hK : K ≤ 9) (hst : sp_st c g K) (hm : ∀ j, j < K → ¬ sp_st c g j)
    (H : ∀ n m, post (nI (sp_cnt (sp_ld (sp_A c g K)) 10)) (c, g, n, m)) : wpY_classes post (c, g, n, m) := by
  unfold wpY_classes
  dsimp only
  refine loop_0 (σ := Int32 × (Nat → Int32) × (Nat → Int32)) (fun n i y => wY_classes_4 post n y.1 (nI i) c g y.2.1 y.2.2) (fun i y => y.1 = nI (sp_cnt (sp_ld (sp_A c g K)) i)) 10 (0, n, m) rfl ?_ ?_
  · intro n y h
    obtain ⟨x, nw, af⟩ := y
    have h : x = nI (sp_cnt (sp_ld (sp_A c g K)) 10) := h
    subst h
    exact pk_le 10 10 (fun _ => H nw af) (fun z => absurd z (by omega))
  · intro n i y hi h k
    obtain ⟨x, nw, af⟩ := y
    have h : x = nI (sp_cnt (sp_ld (sp_A c g K)) i) := h
    subst h
    have b1 := sp_ld_lt (sp_A c g K) hi
    refine pk_le 10 i (fun z => absurd z (by omega)) (fun _ => ym_leader hK hst hm hi (fun nw' af' => ?_))
    dsimp only
    rw [nI_eq (by omega) (by omega)]
    refine br_c (fun z => nm_r (nI_1 _) (nm_r (nI_1 i) (k (_, nw', af') ?_))) (fun z => nm_r (nI_1 i) (k (_, nw', af') ?_))
    · show nI _ = nI _
      rw [sp_cnt_t z]
    · show nI _ = nI _
      rw [sp_cnt_f z]
theorem xm_members {post : Int32 → SX → Prop} {c a l f t r g : Nat → Int32} {K : Nat} (hK : K ≤ 9) (hst : sp_st c g K) (hM : sp_M a g) {s : Nat} (hs : s < 10)
    (H : ∀ l f t r, post (sp_mem (fun u => sp_A c g K s u) 10) (c, a, l, f, t, r)) : wpX_members post (c, a, l, f, t, r) (nI s) := by
  unfold wpX_members
  dsimp only
  refine st_x hs (br_f (by decide) ?_)
  refine xt_K hK hst hM (fun lo fl lt tr h1 h2 h3 => ?_)
  refine loop_0 (fun n i x => wX_members_17 post (nI s) c a lo fl lt tr n x (nI i)) (fun i x => x = sp_mem (fun u => sp_A c g K s u) i) 10 0 rfl ?_ ?_
  · intro n x h
    rw [h]
    exact pk_le 10 10 (fun _ => H lo fl lt tr) (fun z => absurd z (by omega))
  · intro n i x hi h k
    have b1 := sp_ld_lt (sp_A c g K) hi
    have b2 := sp_ld_lt (sp_A c g K) hs
    have hE := sp_A_E c g K
    have e := sp_ld_iff hE hi hs
    refine pk_le 10 i (fun z => absurd z (by omega)) (fun _ => ?_)
    rw [nI_clamp (show i < 2 ^ 31 by omega), nI_clamp (show s < 2 ^ 31 by omega), h1 i hi, h1 s hs, nI_eq (by omega) (by omega), e, h]
    exact ⟨vp_in_nI hi (by omega), vp_in_nI hs (by omega), br_c (fun z => nm_e (nm_r (nI_1 i) (k _ (sp_mem_t (hE.2.1 _ _ hi hs z)).symm))) (fun z => nm_r (nI_1 i) (k _ (sp_mem_f (fun w => z (hE.2.1 _ _ hs hi w))).symm))⟩
theorem ym_members {post : Int32 → SY → Prop} {c g n m : Nat → Int32} {K : Nat} (hK : K ≤ 9) (hst : sp_st c g K) (hm : ∀ j, j < K → ¬ sp_st c g j) {s : Nat} (hs : s < 10)
    (H : ∀ n m, post (sp_mem (fun u => sp_A c g K s u) 10) (c, g, n, m)) : wpY_members post (c, g, n, m) (nI s) := by
  unfold wpY_members
  dsimp only
  refine st_y hs (br_f (by decide) ?_)
  refine yt_m hK hst hm (fun nw af hR => ?_)
  refine loop_0 (fun n i x => wY_members_19 post (nI s) c g nw af n x (nI i)) (fun i x => x = sp_mem (fun u => sp_A c g K s u) i) 10 0 rfl ?_ ?_
  · intro n x h
    rw [h]
    exact pk_le 10 10 (fun _ => H nw af) (fun z => absurd z (by omega))
  · intro n i x hi h k
    refine pk_le 10 i (fun z => absurd z (by omega)) (fun _ => ?_)
    rw [sp_ix s i, nI_clamp (show s * 10 + i < 2 ^ 31 by omega), sp_Rep_at hR hs hi, h]
    exact ⟨vp_in_nI (by omega) (by omega), br_c (fun z => nm_r (nI_1 i) (k _ (sp_mem_f (sp_B_0.mp z)).symm)) (fun z => nm_e (nm_r (nI_1 i) (k _ (sp_mem_t (Classical.byContradiction (fun w => z (sp_B_f w)))).symm)))⟩
theorem xm_told {post : Int32 → SX → Prop} {c a l f t r g : Nat → Int32} {K : Nat} (hK : K ≤ 9) (hst : sp_st c g K) (hM : sp_M a g) {s u : Nat} (hs : s < 10) (hu : u < 10)
    (H : ∀ l f t r, post (sp_T c g (s * 10 + u) 11) (c, a, l, f, t, r)) : wpX_told post (c, a, l, f, t, r) (nI s) (nI u) := by
  unfold wpX_told
  dsimp only
  refine st_x hs (br_f (by decide) (st_x hu (br_f (by decide) ?_)))
  refine xt_K hK hst hM (fun lo fl lt tr h1 h2 h3 => ?_)
  dsimp only
  rw [sp_ix s u, nI_clamp (show s * 10 + u < 2 ^ 31 by omega), h3 _ (by omega)]
  exact ⟨vp_in_nI (by omega) (by omega), H lo fl lt tr⟩
theorem yo_a {post : Int32 → SY → Prop} {c g : Nat → Int32} {K : Nat} (hst : sp_st c g K) (hm : ∀ j, j < K → ¬ sp_st c g j) {s u : Nat} (hs : s < 10) (hu : u < 10) (hA : ∀ j, sp_A c g j s u)
    (H : ∀ n m, post (-2) (c, g, n, m)) :
    ∀ d k nw af, k + d = K → sp_Rep nw (sp_A c g k) → wY_told_24 post (nI s) (nI u) (d + 1) (nI k) c g nw af := by
  intro d
  induction d with
  | zero =>
    intro k nw af hk hR
    have e : k = K := by omega
    subst e
    rw [wY_told_24]
    dsimp only
    rw [sp_ix s u, nI_clamp (show s * 10 + u < 2 ^ 31 by omega), sp_Rep_at hR hs hu, sp_B_t (hA k)]
    exact ⟨vp_in_nI (by omega) (by omega), br_f (by decide) (yr_k hR (fun z => absurd hst z) (fun _ nw' af' h => br_t rfl (H nw' af')))⟩
  | succ d ih =>
    intro k nw af hk hR
    rw [wY_told_24]
    dsimp only
    rw [sp_ix s u, nI_clamp (show s * 10 + u < 2 ^ 31 by omega), sp_Rep_at hR hs hu, sp_B_t (hA k)]
    exact ⟨vp_in_nI (by omega) (by omega), br_f (by decide) (yr_k hR (fun _ nw' af' h => br_f (by decide) (nm_r (nI_1 k) (ih (k + 1) nw' af' (by omega) h))) (fun z => absurd z (hm k (by omega))))⟩
theorem yo_b {post : Int32 → SY → Prop} {c g : Nat → Int32} {K : Nat} (hm : ∀ j, j < K → ¬ sp_st c g j) {s u : Nat} (hs : s < 10) (hu : u < 10) {j : Nat} (hj : j ≤ K) (hN : ¬ sp_A c g j s u) (hA : ∀ i, i < j → sp_A c g i s u)
    (H : ∀ n m, post (nI j) (c, g, n, m)) :
    ∀ d k nw af, k + d = j → sp_Rep nw (sp_A c g k) → wY_told_24 post (nI s) (nI u) (d + 1) (nI k) c g nw af := by
  intro d
  induction d with
  | zero =>
    intro k nw af hk hR
    have e : k = j := by omega
    subst e
    rw [wY_told_24]
    dsimp only
    rw [sp_ix s u, nI_clamp (show s * 10 + u < 2 ^ 31 by omega), sp_Rep_at hR hs hu, sp_B_f hN]
    exact ⟨vp_in_nI (by omega) (by omega), br_t rfl (H nw af)⟩
  | succ d ih =>
    intro k nw af hk hR
    rw [wY_told_24]
    dsimp only
    rw [sp_ix s u, nI_clamp (show s * 10 + u < 2 ^ 31 by omega), sp_Rep_at hR hs hu, sp_B_t (hA k (by omega))]
    exact ⟨vp_in_nI (by omega) (by omega), br_f (by decide) (yr_k hR (fun _ nw' af' h => br_f (by decide) (nm_r (nI_1 k) (ih (k + 1) nw' af' (by omega) h))) (fun z => absurd z (hm k (by omega))))⟩
theorem ym_told {post : Int32 → SY → Prop} {c g n m : Nat → Int32} {K : Nat} (hK : K ≤ 9) (hst : sp_st c g K) (hm : ∀ j, j < K → ¬ sp_st c g j) {s u : Nat} (hs : s < 10) (hu : u < 10)
    (H : ∀ n m, post (sp_T c g (s * 10 + u) 11) (c, g, n, m)) : wpY_told post (c, g, n, m) (nI s) (nI u) := by
  unfold wpY_told
  dsimp only
  refine st_y hs (br_f (by decide) (st_y hu (br_f (by decide) ?_)))
  refine yb_m (fun nw hR => ?_)
  have hc := sp_T_cases hK hst (show s * 10 + u < 100 by omega)
  rw [show (s * 10 + u) / 10 = s by omega, show (s * 10 + u) % 10 = u by omega] at hc
  rcases hc with ⟨e, hA⟩ | ⟨j, hj, e, hN, hA⟩
  · rw [e] at H
    exact ⟨K + 1, yo_a hst hm hs hu hA H K 0 nw m (by omega) hR⟩
  · rw [e] at H
    exact ⟨j + 1, yo_b hm hs hu hj hN hA H j 0 nw m (by omega) hR⟩
theorem xm_leads {post : Int32 → SX → Prop} {c a l f t r g : Nat → Int32} {K : Nat} (hK : K ≤ 9) (hst : sp_st c g K) (hM : sp_M a g) {o s : Nat} (ho : o < 2) (hs : s < 10)
    (H : ∀ l f t r, post (sp_LT g (sp_ld (sp_A c g K)) (o * 10 + s) 10) (c, a, l, f, t, r)) : wpX_leads post (c, a, l, f, t, r) (nI o) (nI s) := by
  unfold wpX_leads
  dsimp only
  refine so_x ho (br_f (by decide) (st_x hs (br_f (by decide) ?_)))
  refine xt_K hK hst hM (fun lo fl lt tr h1 h2 h3 => ?_)
  dsimp only
  rw [sp_ix o s, nI_clamp (show o * 10 + s < 2 ^ 31 by omega), h2 _ (by omega)]
  exact ⟨vp_in_nI (by omega) (by omega), H lo fl lt tr⟩
theorem ym_leads {post : Int32 → SY → Prop} {c g n m : Nat → Int32} {K : Nat} (hK : K ≤ 9) (hst : sp_st c g K) (hm : ∀ j, j < K → ¬ sp_st c g j) {o s : Nat} (ho : o < 2) (hs : s < 10)
    (H : ∀ n m, post (sp_LT g (sp_ld (sp_A c g K)) (o * 10 + s) 10) (c, g, n, m)) : wpY_leads post (c, g, n, m) (nI o) (nI s) := by
  unfold wpY_leads
  dsimp only
  refine so_y ho (st_y hs (br_f (by decide) ?_))
  refine yt_m hK hst hm (fun nw af hR => ?_)
  refine loop_0 (fun n i x => wY_leads_29 post (nI o) (nI s) c g nw af n x (nI i)) (fun i x => x = sp_LT g (sp_ld (sp_A c g K)) (o * 10 + s) i) 10 0 rfl ?_ ?_
  · intro n x h
    rw [h]
    exact pk_le 10 10 (fun _ => H nw af) (fun z => absurd z (by omega))
  · intro n i x hi h k
    refine pk_le 10 i (fun z => absurd z (by omega)) (fun _ => ?_)
    rw [sp_ix2 o s i, nI_clamp (show (o * 10 + s) * 10 + i < 2 ^ 31 by omega), h]
    exact ⟨vp_in_nI (by omega) (by omega), br_c (fun z => nm_r (nI_1 i) (k _ (sp_LT_t z).symm)) (fun z => yl_m (sp_A_E c g K) hR hi (nm_e (nm_r (nI_1 i) (k _ (sp_LT_f z).symm))))⟩
end
section
theorem xz_m {post : Int32 → Prop} (x : Int32) (H : post (sp_sz x 10)) : wpX_sizeOf post x := by
  refine loop_0 (fun n i y => wX_sizeOf_4 post x n y (nI i)) (fun i y => y = sp_sz x i) 10 0 rfl ?_ ?_
  · intro n y h
    rw [h]
    exact pk_le 10 10 (fun _ => H) (fun z => absurd z (by omega))
  · intro n i y hi h k
    rw [h]
    exact pk_le 10 i (fun z => absurd z (by omega)) (fun _ => nm_e (nm_r (nI_1 i) (k _ rfl)))
theorem xm_colours {post : Int32 → Prop} {c a l f t r : Nat → Int32} (H : post (sp_sz (sp_seen c 10) 10)) : wpX_colours post (c, a, l, f, t, r) := by
  refine loop_0 (fun n i x => wX_colours_4 post c a l f t r n x (nI i)) (fun i x => x = sp_seen c i) 10 0 rfl ?_ ?_
  · intro n x h
    rw [h]
    exact pk_le 10 10 (fun _ => xz_m _ H) (fun z => absurd z (by omega))
  · intro n i x hi h k
    rw [h]
    refine pk_le 10 i (fun z => absurd z (by omega)) (fun _ => ⟨vp_in_nI hi (by omega), ?_⟩)
    rw [nI_clamp (show i < 2 ^ 31 by omega)]
    exact nm_e (nm_r (nI_1 i) (k _ rfl))
theorem ym_colours {post : Int32 → Prop} {c g n m : Nat → Int32} (hC : sp_C c) (H : post (sp_sz (sp_seen c 10) 10)) : wpY_colours post (c, g, n, m) := by
  refine loop_0 (fun k i x => wY_colours_4 post c g n m k x (nI i)) (fun i x => x = sp_seen c i) 10 0 rfl ?_ ?_
  · intro k x h
    obtain ⟨v, hv, e⟩ := sp_seen_lt hC 10 (by omega)
    rw [e, sp_sz16 v hv] at H
    rw [h, e]
    exact pk_le 10 10 (fun _ => H) (fun z => absurd z (by omega))
  · intro k i x hi h kk
    rw [h]
    refine pk_le 10 i (fun z => absurd z (by omega)) (fun _ => ⟨vp_in_nI hi (by omega), ?_⟩)
    rw [nI_clamp (show i < 2 ^ 31 by omega)]
    exact nm_e (nm_r (nI_1 i) (kk _ rfl))
def sp_red (g : Nat → Int32) (l : Nat → Nat) : Nat → Int32
  | 0 => 0
  | p + 1 => sp_red g l p + sp_sz (sp_LT g l p 10) 10
theorem xm_reduce {post : Int32 → SX → Prop} {c a l f t r g : Nat → Int32} {K : Nat} (hK : K ≤ 9) (hst : sp_st c g K) (hM : sp_M a g)
    (H : ∀ a' l f t r, (∀ p, p < 20 → a' p = sp_LT g (sp_ld (sp_A c g K)) p 10) → post (sp_red g (sp_ld (sp_A c g K)) 20) (c, a', l, f, t, r)) : wpX_reduce post (c, a, l, f, t, r) := by
  unfold wpX_reduce
  dsimp only
  refine xt_K hK hst hM (fun lo fl lt tr h1 h2 h3 => ?_)
  refine loop_0 (σ := Int32 × (Nat → Int32)) (fun n i y => wX_reduce_8 post n y.1 (nI i) c y.2 lo fl lt tr) (fun i y => y.1 = sp_red g (sp_ld (sp_A c g K)) i ∧ sp_P 20 i y.2 (fun p => sp_LT g (sp_ld (sp_A c g K)) p 10) a) 20 (0, a) ⟨rfl, sp_P0 20 a _⟩ ?_ ?_
  · intro n y h
    obtain ⟨x, b⟩ := y
    obtain ⟨e, h⟩ := h
    have e : x = sp_red g (sp_ld (sp_A c g K)) 20 := e
    subst e
    exact pk_le 20 20 (fun _ => H b lo fl lt tr (sp_Pe h)) (fun z => absurd z (by omega))
  · intro n i y hi h k
    obtain ⟨x, b⟩ := y
    obtain ⟨e, h⟩ := h
    have e : x = sp_red g (sp_ld (sp_A c g K)) i := e
    have h : sp_P 20 i b (fun p => sp_LT g (sp_ld (sp_A c g K)) p 10) a := h
    subst e
    refine pk_le 20 i (fun z => absurd z (by omega)) (fun _ => ⟨vp_in_nI hi (by omega), vp_in_nI hi (by omega), ?_⟩)
    rw [nI_clamp (show i < 2 ^ 31 by omega), h2 i hi]
    refine nm_e ⟨vp_in_nI hi (by omega), ?_⟩
    rw [pk_us]
    exact xz_m _ (nm_e (nm_r (nI_1 i) (k (_, _) ⟨rfl, sp_Pu h rfl⟩)))
theorem sp_v_vb {x : Int32} {t : Nat} (ht : t < 10) (h : ¬ (x >>> (nI t &&& 31)) &&& 1 = 0) : vp_nar .boolean 1 = sp_v (bt x t) := by
  rw [sp_bit x (show t < 32 by omega)] at h
  cases e : bt x t
  · rw [e] at h
    exact absurd rfl h
  · rfl
theorem sp_v_vb0 {x : Int32} {t : Nat} (ht : t < 10) (h : (x >>> (nI t &&& 31)) &&& 1 = 0) : vp_nar .boolean 0 = sp_v (bt x t) := by
  rw [sp_bit x (show t < 32 by omega)] at h
  rw [h]
  rfl
theorem ye_62 {post : Int32 → SY → Prop} {J : Int32 → Int32 → (Nat → Int32) → (Nat → Int32) → (Nat → Int32) → (Nat → Int32) → Prop} {c nw af nx od : Nat → Int32} {p : Nat} (hp : p < 20) {x0 x3 : Int32}
    (hn : ∀ t, t < 10 → nx (p * 10 + t) = sp_v (bt x3 t))
    (H : ∀ g', sp_P 200 (p * 10 + 10) g' nx od → J (x0 + sp_sz x3 10) (nI (p + 1)) c g' nw af) :
    ∀ n i (y : Int32 × (Nat → Int32)), i ≤ 10 → 10 - i < n → (y.1 = x0 + sp_sz x3 i ∧ sp_P 200 (p * 10 + i) y.2 nx od) → wY_reduce_62 post J (nI p) x3 n y.1 (nI i) c y.2 nw af := by
  refine loop_i (σ := Int32 × (Nat → Int32)) (fun n i y => wY_reduce_62 post J (nI p) x3 n y.1 (nI i) c y.2 nw af) (fun i y => y.1 = x0 + sp_sz x3 i ∧ sp_P 200 (p * 10 + i) y.2 nx od) 10 ?_ ?_
  · intro n y h
    obtain ⟨x, b⟩ := y
    obtain ⟨e, h⟩ := h
    have e : x = x0 + sp_sz x3 10 := e
    subst e
    exact pk_le 10 10 (fun _ => nm_r (nI_1 p) (H b h)) (fun z => absurd z (by omega))
  · intro n i y hi h k
    obtain ⟨x, b⟩ := y
    obtain ⟨e, h⟩ := h
    have e : x = x0 + sp_sz x3 i := e
    have h : sp_P 200 (p * 10 + i) b nx od := h
    have key : ∀ z, vp_nar .boolean z = sp_v (bt x3 i) → wY_reduce_94 post J (wY_reduce_62 post J (nI p) x3 n) x (nI p) x3 (nI i) z (nI p * 10 + nI i) c b nw af := by
      intro z hz
      unfold wY_reduce_94
      rw [sp_ix p i, nI_clamp (show p * 10 + i < 2 ^ 31 by omega), hz]
      refine ⟨vp_in_nI (by omega) (by omega), nm_e (nm_e (nm_r (nI_1 i) (k (_, _) ⟨?_, sp_Pu h (hn i hi).symm⟩)))⟩
      show x + _ = x0 + (sp_sz x3 i + _)
      rw [e, Int32.add_assoc]
    exact pk_le 10 i (fun z => absurd z (by omega)) (fun _ => br_c (fun z => key 0 (sp_v_vb0 hi z)) (fun z => key 1 (sp_v_vb hi z)))
theorem ye_20 {post : Int32 → SY → Prop} {J : Int32 → Int32 → (Nat → Int32) → (Nat → Int32) → (Nat → Int32) → (Nat → Int32) → Prop} {c nw af g g' : Nat → Int32} {R : Nat → Nat → Prop} (hE : sp_E R) (hR : sp_Rep nw R) {p : Nat} (hp : p < 20) {x1 : Int32}
    (hg : ∀ t, t < 10 → g' (p * 10 + t) = g (p * 10 + t))
    (H : ∃ n, wY_reduce_62 post J (nI p) (sp_LT g (sp_ld R) p 10) n x1 (nI 0) c g' nw af) :
    ∀ n i x, i ≤ 10 → 10 - i < n → x = sp_LT g (sp_ld R) p i → wY_reduce_20 post J x1 (nI p) c g' nw af n x (nI i) := by
  refine loop_i (fun n i x => wY_reduce_20 post J x1 (nI p) c g' nw af n x (nI i)) (fun i x => x = sp_LT g (sp_ld R) p i) 10 ?_ ?_
  · intro n x h
    rw [h]
    exact pk_le 10 10 (fun _ => H) (fun z => absurd z (by omega))
  · intro n i x hi h k
    rw [h]
    refine pk_le 10 i (fun z => absurd z (by omega)) (fun _ => ?_)
    rw [sp_ix p i, nI_clamp (show p * 10 + i < 2 ^ 31 by omega), hg i hi]
    exact ⟨vp_in_nI (by omega) (by omega), br_c (fun z => nm_r (nI_1 i) (k _ (sp_LT_t z).symm)) (fun z => yl_m hE hR hi (nm_e (nm_r (nI_1 i) (k _ (sp_LT_f z).symm))))⟩
theorem ym_reduce {post : Int32 → SY → Prop} {c g n m : Nat → Int32} {K : Nat} (hK : K ≤ 9) (hst : sp_st c g K) (hm : ∀ j, j < K → ¬ sp_st c g j)
    (H : ∀ g' n m, (∀ p t, p < 20 → t < 10 → g' (p * 10 + t) = sp_v (bt (sp_LT g (sp_ld (sp_A c g K)) p 10) t)) → post (sp_red g (sp_ld (sp_A c g K)) 20) (c, g', n, m)) : wpY_reduce post (c, g, n, m) := by
  unfold wpY_reduce
  dsimp only
  refine yt_m hK hst hm (fun nw af hR => ?_)
  refine loop_0 (σ := Int32 × (Nat → Int32)) (fun n i y => wY_reduce_9 post n y.1 (nI i) c y.2 nw af) (fun i y => y.1 = sp_red g (sp_ld (sp_A c g K)) i ∧ sp_P 200 (i * 10) y.2 (fun q => sp_v (bt (sp_LT g (sp_ld (sp_A c g K)) (q / 10) 10) (q % 10))) g) 20 (0, g) ⟨rfl, sp_P0 200 g _⟩ ?_ ?_
  · intro n y h
    obtain ⟨x, b⟩ := y
    obtain ⟨e, h⟩ := h
    have e : x = sp_red g (sp_ld (sp_A c g K)) 20 := e
    subst e
    refine pk_le 20 20 (fun _ => H b nw af (fun p t hp ht => ?_)) (fun z => absurd z (by omega))
    have h' := sp_Pe (sp_Pc h (show 20 * 10 = 200 by omega)) (p * 10 + t) (by omega)
    have h' : b (p * 10 + t) = sp_v (bt (sp_LT g (sp_ld (sp_A c g K)) ((p * 10 + t) / 10) 10) ((p * 10 + t) % 10)) := h'
    rw [show (p * 10 + t) / 10 = p by omega, show (p * 10 + t) % 10 = t by omega] at h'
    exact h'
  · intro n i y hi h k
    obtain ⟨x, b⟩ := y
    obtain ⟨e, h⟩ := h
    have e : x = sp_red g (sp_ld (sp_A c g K)) i := e
    have h : sp_P 200 (i * 10) b (fun q => sp_v (bt (sp_LT g (sp_ld (sp_A c g K)) (q / 10) 10) (q % 10))) g := h
    subst e
    refine pk_le 20 i (fun z => absurd z (by omega)) (fun _ => ⟨11, ye_20 (g := g) (sp_A_E c g K) hR hi (fun t ht => ?_) ⟨11, ?_⟩ 11 0 0 (by omega) (by omega) rfl⟩)
    · exact (h _ (by omega)).trans (if_neg (by omega))
    · refine ye_62 hi (fun t ht => ?_) (fun g' h' => k (_, g') ⟨rfl, sp_Pc h' (by omega)⟩) 11 0 (_, b) (by omega) (by omega) ⟨(Int32.add_zero _).symm, sp_Pc h (by omega)⟩
      show sp_v (bt (sp_LT g (sp_ld (sp_A c g K)) ((i * 10 + t) / 10) 10) ((i * 10 + t) % 10)) = _
      rw [show (i * 10 + t) / 10 = i by omega, show (i * 10 + t) % 10 = t by omega]
theorem sp_m2le : ∀ m, m < 100 → (-2 : Int32) ≤ nI m := by decide +kernel
theorem xm_rounds {post : Int32 → SX → Prop} {c a l f t r g : Nat → Int32} {K : Nat} (hK : K ≤ 9) (hst : sp_st c g K) (hm : ∀ j, j < K → ¬ sp_st c g j) (hM : sp_M a g)
    (H : ∀ l f t r, post (nI K) (c, a, l, f, t, r)) : wpX_rounds post (c, a, l, f, t, r) := by
  unfold wpX_rounds
  dsimp only
  refine xt_K hK hst hM (fun lo fl lt tr h1 h2 h3 => ?_)
  refine loop_0 (fun n i x => wX_rounds_8 post c a lo fl lt tr n x (nI i)) (fun i x => ∃ v, v ≤ K ∧ x = nI v ∧ ∀ q, q < i → ∀ j, j < 100 → sp_T c g q 11 = nI j → j ≤ v) 100 0 ⟨0, by omega, rfl, fun q hq => absurd hq (Nat.not_lt_zero q)⟩ ?_ ?_
  · intro n x h
    obtain ⟨v, hv, e, hq⟩ := h
    have e2 : v = K := by
      rcases sp_K_hit hm with z | ⟨p, hp, hN, hA⟩
      · omega
      · have := hq p hp K (by omega) (sp_T_some hN hA 11 (by omega) (by omega))
        omega
    rw [e, e2]
    exact pk_le 100 100 (fun _ => H lo fl lt tr) (fun z => absurd z (by omega))
  · intro n i x hi h k
    obtain ⟨v, hv, e, hq⟩ := h
    subst e
    refine pk_le 100 i (fun z => absurd z (by omega)) (fun _ => ⟨vp_in_nI hi (by omega), ?_⟩)
    rw [nI_clamp (show i < 2 ^ 31 by omega), h3 i hi]
    rcases sp_T_cases hK hst hi with ⟨e, _⟩ | ⟨j, hj, e, _, _⟩
    · rw [e]
      refine br_t (sp_m2le v (by omega)) (nm_r (nI_1 i) (k _ ⟨v, hv, rfl, fun q hq' j hj ej => ?_⟩))
      by_cases y : q = i
      · subst y
        exact absurd (ej.symm.trans e) (sp_n2 j hj)
      · exact hq q (by omega) j hj ej
    · rw [e]
      refine pk_le j v (fun z => nm_r (nI_1 i) (k _ ⟨v, hv, rfl, fun q hq' j' hj' ej => ?_⟩)) (fun z => ⟨vp_in_nI hi (by omega), nm_e (nm_r (nI_1 i) (k _ ⟨j, hj, rfl, fun q hq' j' hj' ej => ?_⟩))⟩)
      · by_cases y : q = i
        · subst y
          have := (nI_eq (by omega) (by omega)).mp (ej.symm.trans e)
          omega
        · exact hq q (by omega) j' hj' ej
      · by_cases y : q = i
        · subst y
          have := (nI_eq (by omega) (by omega)).mp (ej.symm.trans e)
          omega
        · have := hq q (by omega) j' hj' ej
          omega
theorem ym_rounds {post : Int32 → SY → Prop} {c g n m : Nat → Int32} {K : Nat} (hK : K ≤ 9) (hst : sp_st c g K) (hm : ∀ j, j < K → ¬ sp_st c g j)
    (H : ∀ n m, post (nI K) (c, g, n, m)) : wpY_rounds post (c, g, n, m) := by
  unfold wpY_rounds
  dsimp only
  exact yt_m hK hst hm (fun nw af _ => H nw af)
theorem sp_M_set {a g : Nat → Int32} (h : sp_M a g) {p t : Nat} (ht : t < 10) : sp_M (upd a p (a p ||| ((1 : Int32) <<< (nI t &&& 31)))) (upd g (p * 10 + t) 1) := by
  intro p' t' hp' ht'
  by_cases e : p' = p
  · subst e
    rw [pk_us, sp_or _ ht (show t' < 32 by omega)]
    by_cases e2 : t' = t
    · subst e2
      rw [pk_us, decide_eq_true rfl, Bool.or_true]
      rfl
    · rw [pk_un (by omega), decide_eq_false (by omega), Bool.or_false]
      exact h p' t' hp' ht'
  · rw [pk_un e, pk_un (by omega)]
    exact h p' t' hp' ht'
theorem sp_M_clr {a g : Nat → Int32} (h : sp_M a g) {p t : Nat} (ht : t < 10) : sp_M (upd a p (a p &&& (((1 : Int32) <<< (nI t &&& 31)) ^^^ (-1)))) (upd g (p * 10 + t) 0) := by
  intro p' t' hp' ht'
  by_cases e : p' = p
  · subst e
    rw [pk_us, sp_clr _ ht (show t' < 32 by omega)]
    by_cases e2 : t' = t
    · subst e2
      rw [pk_us, decide_eq_true rfl, Bool.not_true, Bool.and_false]
      rfl
    · rw [pk_un (by omega), decide_eq_false (by omega), Bool.not_false, Bool.and_true]
      exact h p' t' hp' ht'
  · rw [pk_un e, pk_un (by omega)]
    exact h p' t' hp' ht'
theorem sp_C_set {c : Nat → Int32} (h : sp_C c) {s j : Nat} (hj : j < 4) : sp_C (upd c s (nI j)) := by
  intro s' hs'
  by_cases e : s' = s
  · subst e
    exact ⟨j, hj, pk_us⟩
  · rw [pk_un e]
    exact h s' hs'
end
section
def i_Rel (k : Nat) (u : SX) (v : SY) : Prop := ∃ c a l f t r g n m : Nat → Int32, u = (c, a, l, f, t, r) ∧ v = (c, g, n, m) ∧ sp_C c ∧ sp_M a g
theorem ri_mk {k : Nat} {c a l f t r g n m : Nat → Int32} (hC : sp_C c) (hM : sp_M a g) : i_Rel k (c, a, l, f, t, r) (c, g, n, m) := ⟨c, a, l, f, t, r, g, n, m, rfl, rfl, hC, hM⟩
theorem i_up {k : Nat} {u : SX} {v : SY} (h : i_Rel k u v) : i_Rel (k + 5) u v := h
theorem i_vc0 : wpX_init (fun u => wpY_init (fun v => i_Rel 0 u v)) := by
  refine ri_mk (k := 0) (fun s _ => ⟨0, by omega, rfl⟩) (fun p t _ _ => ?_)
  show (0 : Int32) = sp_v (bt 0 t)
  rw [b_0]
  rfl
theorem i_vc_colour {k : Nat} {u : SX} {v : SY} (I : i_Rel k u v) (hk : k + 5 ≤ 2560) (v1 : Int32) (v2 : Int32) : wpX_colour (fun r u' => wpY_colour (fun r' v' => r' = r ∧ i_Rel (k + 5) u' v') v v1 v2) u v1 v2 := by
  obtain ⟨c, a, l, f, t, r, g, n, m, rfl, rfl, hC, hM⟩ := I
  unfold wpX_colour wpY_colour
  dsimp only
  rcases st_cases v1 with ⟨s, hs, rfl⟩ | ⟨hx, hy⟩
  · refine st_x hs (br_f (by decide) ?_)
    by_cases h0 : v2 < 0
    · exact br_t h0 (st_y hs (br_f (by decide) (br_t h0 ⟨rfl, ri_mk hC hM⟩)))
    · obtain ⟨j, hj, rfl⟩ := nI_of h0
      rw [nI_clamp (show s < 2 ^ 31 by omega)]
      refine br_f h0 (pk_lt j 4 (fun z => ⟨vp_in_nI hs (by omega), nm_e ?_⟩) (fun z => ?_))
      · exact st_y hs (br_f (by decide) (br_f h0 (pk_le j 3 (fun _ => ⟨vp_in_nI hs (by omega), nm_e ⟨rfl, ri_mk (sp_C_set hC z) hM⟩⟩) (fun y => absurd y (by omega)))))
      · exact st_y hs (br_f (by decide) (br_f h0 (pk_le j 3 (fun y => absurd y (by omega)) (fun _ => ⟨rfl, ri_mk hC hM⟩))))
  · exact hx _ (br_t rfl (hy _ c g n m (br_t rfl ⟨rfl, ri_mk hC hM⟩)))
theorem i_vc_step {k : Nat} {u : SX} {v : SY} (I : i_Rel k u v) (hk : k + 5 ≤ 2560) (v1 : Int32) (v2 : Int32) (v3 : Int32) (v4 : Int32) : wpX_step (fun r u' => wpY_step (fun r' v' => r' = r ∧ i_Rel (k + 5) u' v') v v1 v2 v3 (lw_bz v4)) u v1 v2 v3 (lw_bz v4) := by
  obtain ⟨c, a, l, f, t, r, g, n, m, rfl, rfl, hC, hM⟩ := I
  unfold wpX_step wpY_step
  dsimp only
  rcases so_cases v1 with ⟨o, ho, rfl⟩ | ⟨hx, hy⟩
  · refine so_x ho (br_f (by decide) ?_)
    rcases st_cases v2 with ⟨s, hs, rfl⟩ | ⟨hx, hy⟩
    · refine st_x hs (br_f (by decide) ?_)
      rcases st_cases v3 with ⟨u, hu, rfl⟩ | ⟨hx, hy⟩
      · refine st_x hu (br_f (by decide) (nm_r (sp_ix o s) ?_))
        rw [sp_ix2 o s u, nI_clamp (show o * 10 + s < 2 ^ 31 by omega), nI_clamp (show (o * 10 + s) * 10 + u < 2 ^ 31 by omega)]
        rcases lw_bz_01 v4 with e | e
        · rw [e, sp_nar0]
          exact br_t rfl ⟨vp_in_nI (by omega) (by omega), vp_in_nI (by omega) (by omega), nm_e (so_y ho (st_y hs (br_f (by decide) (st_y hu (br_f (by decide) ⟨vp_in_nI (by omega) (by omega), nm_e ⟨rfl, ri_mk hC (sp_M_clr hM hu)⟩⟩)))))⟩
        · rw [e, sp_nar1]
          exact br_f (by decide) ⟨vp_in_nI (by omega) (by omega), vp_in_nI (by omega) (by omega), nm_e (so_y ho (st_y hs (br_f (by decide) (st_y hu (br_f (by decide) ⟨vp_in_nI (by omega) (by omega), nm_e ⟨rfl, ri_mk hC (sp_M_set hM hu)⟩⟩)))))⟩
      · exact hx _ (br_t rfl (so_y ho (st_y hs (br_f (by decide) (hy _ c g n m (br_t rfl ⟨rfl, ri_mk hC hM⟩))))))
    · exact hx _ (br_t rfl (so_y ho (hy _ c g n m (br_t rfl ⟨rfl, ri_mk hC hM⟩))))
  · exact hx _ (br_t rfl (hy _ _ ⟨rfl, ri_mk hC hM⟩))
theorem i_vc_alike {k : Nat} {u : SX} {v : SY} (I : i_Rel k u v) (hk : k + 5 ≤ 2560) (v1 : Int32) (v2 : Int32) : wpX_alike (fun r u' => wpY_alike (fun r' v' => r' = r ∧ i_Rel (k + 5) u' v') v v1 v2) u v1 v2 := by
  obtain ⟨c, a, l, f, t, r, g, n, m, rfl, rfl, hC, hM⟩ := I
  obtain ⟨K, hK, hst, hm⟩ := sp_K c g
  rcases st_cases v1 with ⟨s, hs, rfl⟩ | ⟨hx, hy⟩
  · rcases st_cases v2 with ⟨u, hu, rfl⟩ | ⟨hx, hy⟩
    · exact xm_alike hK hst hM hs hu (fun l f t r => ym_alike hK hst hm hs hu (fun n m => ⟨rfl, ri_mk hC hM⟩))
    · unfold wpX_alike wpY_alike
      dsimp only
      exact st_x hs (br_f (by decide) (hx _ (br_t rfl (st_y hs (br_f (by decide) (hy _ c g n m (br_t rfl ⟨rfl, ri_mk hC hM⟩)))))))
  · unfold wpX_alike wpY_alike
    dsimp only
    exact hx _ (br_t rfl (hy _ c g n m (br_t rfl ⟨rfl, ri_mk hC hM⟩)))
theorem i_vc_classes {k : Nat} {u : SX} {v : SY} (I : i_Rel k u v) (hk : k + 5 ≤ 2560) : wpX_classes (fun r u' => wpY_classes (fun r' v' => r' = r ∧ i_Rel (k + 5) u' v') v) u := by
  obtain ⟨c, a, l, f, t, r, g, n, m, rfl, rfl, hC, hM⟩ := I
  obtain ⟨K, hK, hst, hm⟩ := sp_K c g
  exact xm_classes hK hst hM (fun l f t r => ym_classes hK hst hm (fun n m => ⟨rfl, ri_mk hC hM⟩))
theorem i_vc_leader {k : Nat} {u : SX} {v : SY} (I : i_Rel k u v) (hk : k + 5 ≤ 2560) (v1 : Int32) : wpX_leader (fun r u' => wpY_leader (fun r' v' => r' = r ∧ i_Rel (k + 5) u' v') v v1) u v1 := by
  obtain ⟨c, a, l, f, t, r, g, n, m, rfl, rfl, hC, hM⟩ := I
  obtain ⟨K, hK, hst, hm⟩ := sp_K c g
  rcases st_cases v1 with ⟨s, hs, rfl⟩ | ⟨hx, hy⟩
  · exact xm_leader hK hst hM hs (fun l f t r => ym_leader hK hst hm hs (fun n m => ⟨rfl, ri_mk hC hM⟩))
  · unfold wpX_leader wpY_leader
    dsimp only
    exact hx _ (br_t rfl (hy _ c g n m (br_t rfl ⟨rfl, ri_mk hC hM⟩)))
theorem i_vc_members {k : Nat} {u : SX} {v : SY} (I : i_Rel k u v) (hk : k + 5 ≤ 2560) (v1 : Int32) : wpX_members (fun r u' => wpY_members (fun r' v' => r' = r ∧ i_Rel (k + 5) u' v') v v1) u v1 := by
  obtain ⟨c, a, l, f, t, r, g, n, m, rfl, rfl, hC, hM⟩ := I
  obtain ⟨K, hK, hst, hm⟩ := sp_K c g
  rcases st_cases v1 with ⟨s, hs, rfl⟩ | ⟨hx, hy⟩
  · exact xm_members hK hst hM hs (fun l f t r => ym_members hK hst hm hs (fun n m => ⟨rfl, ri_mk hC hM⟩))
  · unfold wpX_members wpY_members
    dsimp only
    exact hx _ (br_t rfl (hy _ c g n m (br_t rfl ⟨rfl, ri_mk hC hM⟩)))
theorem i_vc_told {k : Nat} {u : SX} {v : SY} (I : i_Rel k u v) (hk : k + 5 ≤ 2560) (v1 : Int32) (v2 : Int32) : wpX_told (fun r u' => wpY_told (fun r' v' => r' = r ∧ i_Rel (k + 5) u' v') v v1 v2) u v1 v2 := by
  obtain ⟨c, a, l, f, t, r, g, n, m, rfl, rfl, hC, hM⟩ := I
  obtain ⟨K, hK, hst, hm⟩ := sp_K c g
  rcases st_cases v1 with ⟨s, hs, rfl⟩ | ⟨hx, hy⟩
  · rcases st_cases v2 with ⟨u, hu, rfl⟩ | ⟨hx, hy⟩
    · exact xm_told hK hst hM hs hu (fun l f t r => ym_told hK hst hm hs hu (fun n m => ⟨rfl, ri_mk hC hM⟩))
    · unfold wpX_told wpY_told
      dsimp only
      exact st_x hs (br_f (by decide) (hx _ (br_t rfl (st_y hs (br_f (by decide) (hy _ c g n m (br_t rfl ⟨rfl, ri_mk hC hM⟩)))))))
  · unfold wpX_told wpY_told
    dsimp only
    exact hx _ (br_t rfl (hy _ c g n m (br_t rfl ⟨rfl, ri_mk hC hM⟩)))
theorem i_vc_leads {k : Nat} {u : SX} {v : SY} (I : i_Rel k u v) (hk : k + 5 ≤ 2560) (v1 : Int32) (v2 : Int32) : wpX_leads (fun r u' => wpY_leads (fun r' v' => r' = r ∧ i_Rel (k + 5) u' v') v v1 v2) u v1 v2 := by
  obtain ⟨c, a, l, f, t, r, g, n, m, rfl, rfl, hC, hM⟩ := I
  obtain ⟨K, hK, hst, hm⟩ := sp_K c g
  rcases so_cases v1 with ⟨o, ho, rfl⟩ | ⟨hx, hy⟩
  · rcases st_cases v2 with ⟨s, hs, rfl⟩ | ⟨hx, hy⟩
    · exact xm_leads hK hst hM ho hs (fun l f t r => ym_leads hK hst hm ho hs (fun n m => ⟨rfl, ri_mk hC hM⟩))
    · unfold wpX_leads wpY_leads
      dsimp only
      exact so_x ho (br_f (by decide) (hx _ (br_t rfl (so_y ho (hy _ c g n m (br_t rfl ⟨rfl, ri_mk hC hM⟩))))))
  · unfold wpX_leads wpY_leads
    dsimp only
    exact hx _ (br_t rfl (hy _ _ ⟨rfl, ri_mk hC hM⟩))
theorem i_vc_colours {k : Nat} {u : SX} {v : SY} (I : i_Rel k u v) (hk : k + 5 ≤ 2560) : wpX_colours (fun r => wpY_colours (fun r' => r' = r ∧ i_Rel (k + 5) u v) v) u := by
  obtain ⟨c, a, l, f, t, r, g, n, m, rfl, rfl, hC, hM⟩ := I
  exact xm_colours (ym_colours hC ⟨rfl, ri_mk hC hM⟩)
theorem i_vc_reduce {k : Nat} {u : SX} {v : SY} (I : i_Rel k u v) (hk : k + 5 ≤ 2560) : wpX_reduce (fun r u' => wpY_reduce (fun r' v' => r' = r ∧ i_Rel (k + 5) u' v') v) u := by
  obtain ⟨c, a, l, f, t, r, g, n, m, rfl, rfl, hC, hM⟩ := I
  obtain ⟨K, hK, hst, hm⟩ := sp_K c g
  exact xm_reduce hK hst hM (fun a' l f t r ha => ym_reduce hK hst hm (fun g' n m hg => ⟨rfl, ri_mk hC (fun p t hp ht => by rw [hg p t hp ht, ha p hp])⟩))
theorem i_vc_rounds {k : Nat} {u : SX} {v : SY} (I : i_Rel k u v) (hk : k + 5 ≤ 2560) : wpX_rounds (fun r u' => wpY_rounds (fun r' v' => r' = r ∧ i_Rel (k + 5) u' v') v) u := by
  obtain ⟨c, a, l, f, t, r, g, n, m, rfl, rfl, hC, hM⟩ := I
  obtain ⟨K, hK, hst, hm⟩ := sp_K c g
  exact xm_rounds hK hst hm hM (fun l f t r => ym_rounds hK hst hm (fun n m => ⟨rfl, ri_mk hC hM⟩))
end
