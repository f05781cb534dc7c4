noncomputable def sp_B (P : Prop) : Int32 := @ite Int32 P (Classical.propDecidable P) 1 0
theorem sp_B_t {P : Prop} (h : P) : sp_B P = 1 := if_pos h
theorem sp_B_f {P : Prop} (h : ¬ P) : sp_B P = 0 := if_neg h
theorem sp_B_0 {P : Prop} : sp_B P = 0 ↔ ¬ P := by
  constructor
  · intro e h
    rw [sp_B_t h] at e
    exact absurd e (by decide)
  · exact sp_B_f
theorem sp_B_1 {P : Prop} : sp_B P = 1 ↔ P := by
  constructor
  · intro e
    refine Classical.byContradiction (fun h => ?_)
    rw [sp_B_f h] at e
    exact absurd e (by decide)
  · exact sp_B_t
theorem sp_B_c {P Q : Prop} (h : P ↔ Q) : sp_B P = sp_B Q := by
  by_cases p : P
  · rw [sp_B_t p, sp_B_t (h.mp p)]
  · rw [sp_B_f p, sp_B_f (fun q => p (h.mpr q))]
theorem sp_B_01 (P : Prop) : sp_B P = 0 ∨ sp_B P = 1 := by
  by_cases p : P
  · exact Or.inr (sp_B_t p)
  · exact Or.inl (sp_B_f p)
theorem sp_B_n (P : Prop) : narrow .boolean (.int (sp_B P)) = .int (sp_B P) := by
  rcases sp_B_01 P with h | h
  · rw [h]
    rfl
  · rw [h]
    rfl
theorem sp_nar0 : vp_nar .boolean 0 = 0 := rfl
theorem sp_nar1 : vp_nar .boolean 1 = 1 := rfl
theorem sp_B_v (P : Prop) : vp_nar .boolean (sp_B P) = sp_B P := by
  rcases sp_B_01 P with h | h
  · rw [h]
    rfl
  · rw [h]
    rfl
def sp_Rep (n : Nat → Int32) (R : Nat → Nat → Prop) : Prop := ∀ p, p < 100 → n p = sp_B (R (p / 10) (p % 10))
theorem sp_Rep_at {n : Nat → Int32} {R : Nat → Nat → Prop} (h : sp_Rep n R) {s t : Nat} (hs : s < 10) (ht : t < 10) : n (s * 10 + t) = sp_B (R s t) := by
  rw [h (s * 10 + t) (by omega), show (s * 10 + t) / 10 = s by omega, show (s * 10 + t) % 10 = t by omega]
theorem sp_Rep_S {n : Nat → Int32} {R R' : Nat → Nat → Prop} (h : sp_Rep n R) (hS : sp_S R R') : sp_Rep n R' := by
  intro p hp
  rw [h p hp]
  exact sp_B_c (hS _ _ (by omega) (by omega))
noncomputable def sp_T (c g : Nat → Int32) (p : Nat) : Nat → Int32
  | 0 => -2
  | k + 1 => @ite Int32 (sp_T c g p k = -2 ∧ ¬ sp_A c g k (p / 10) (p % 10)) (Classical.propDecidable _) (nI k) (sp_T c g p k)
theorem sp_T_s {c g : Nat → Int32} {p k : Nat} (h : sp_T c g p k = -2 ∧ ¬ sp_A c g k (p / 10) (p % 10)) : sp_T c g p (k + 1) = nI k := by
  rw [sp_T]
  exact if_pos h
theorem sp_T_k {c g : Nat → Int32} {p k : Nat} (h : ¬ (sp_T c g p k = -2 ∧ ¬ sp_A c g k (p / 10) (p % 10))) : sp_T c g p (k + 1) = sp_T c g p k := by
  rw [sp_T]
  exact if_neg h
theorem sp_T_none {c g : Nat → Int32} {p : Nat} : ∀ k, (∀ j, j < k → sp_A c g j (p / 10) (p % 10)) → sp_T c g p k = -2 := by
  intro k
  induction k with
  | zero => exact fun _ => rfl
  | succ k ih =>
    intro h
    rw [sp_T_k (fun z => z.2 (h k (by omega)))]
    exact ih (fun j hj => h j (by omega))
theorem sp_n2 : ∀ j, j < 100 → ¬ nI j = -2 := by decide +kernel
theorem sp_T_some {c g : Nat → Int32} {p j : Nat} (hj : ¬ sp_A c g j (p / 10) (p % 10)) (hb : ∀ i, i < j → sp_A c g i (p / 10) (p % 10)) : ∀ k, k < 100 → j < k → sp_T c g p k = nI j := by
  intro k
  induction k with
  | zero =>
    intro _ h
    omega
  | succ k ih =>
    intro hk h
    by_cases e : j = k
    · subst e
      exact sp_T_s ⟨sp_T_none j hb, hj⟩
    · have h1 := ih (by omega) (by omega)
      rw [sp_T_k (fun z => sp_n2 j (by omega) (h1.symm.trans z.1)), h1]
theorem sp_T_cases {c g : Nat → Int32} {K : Nat} (hK : K ≤ 9) (hs : sp_st c g K) {p : Nat} (hp : p < 100) : (sp_T c g p 11 = -2 ∧ ∀ j, sp_A c g j (p / 10) (p % 10)) ∨ ∃ j, j ≤ K ∧ sp_T c g p 11 = nI j ∧ ¬ sp_A c g j (p / 10) (p % 10) ∧ ∀ i, i < j → sp_A c g i (p / 10) (p % 10) := by
  by_cases e : ∃ j, ¬ sp_A c g j (p / 10) (p % 10)
  · right
    obtain ⟨j, h1, h2⟩ := pk_least (fun j => ¬ sp_A c g j (p / 10) (p % 10)) e
    have h3 : ∀ i, i < j → sp_A c g i (p / 10) (p % 10) := fun i hi => Classical.byContradiction (fun z => h2 i hi z)
    have h4 : j ≤ K := by
      refine Classical.byContradiction (fun z => h1 ?_)
      exact (sp_st_up hs j (by omega) _ _ (by omega) (by omega)).mpr (h3 K (by omega))
    exact ⟨j, h4, sp_T_some h1 h3 11 (by omega) (by omega), h1, h3⟩
  · left
    have h1 : ∀ j, sp_A c g j (p / 10) (p % 10) := fun j => Classical.byContradiction (fun z => e ⟨j, z⟩)
    exact ⟨sp_T_none 11 (fun j _ => h1 j), h1⟩
theorem sp_K_hit {c g : Nat → Int32} {K : Nat} (hm : ∀ j, j < K → ¬ sp_st c g j) : K = 0 ∨ ∃ p, p < 100 ∧ ¬ sp_A c g K (p / 10) (p % 10) ∧ ∀ i, i < K → sp_A c g i (p / 10) (p % 10) := by
  by_cases e : K = 0
  · exact Or.inl e
  · right
    have h := hm (K - 1) (by omega)
    have hx : ∃ s t, s < 10 ∧ t < 10 ∧ sp_A c g (K - 1) s t ∧ ¬ sp_A c g (K - 1 + 1) s t := by
      refine Classical.byContradiction (fun z => h ?_)
      intro s t hs ht hA
      refine Classical.byContradiction (fun y => z ⟨s, t, hs, ht, hA, y⟩)
    obtain ⟨s, t, hs, ht, hA, hB⟩ := hx
    rw [show K - 1 + 1 = K by omega] at hB
    refine ⟨s * 10 + t, by omega, ?_, ?_⟩
    · rw [show (s * 10 + t) / 10 = s by omega, show (s * 10 + t) % 10 = t by omega]
      exact hB
    · intro i hi
      rw [show (s * 10 + t) / 10 = s by omega, show (s * 10 + t) % 10 = t by omega]
      exact sp_A_le c g (by omega) hA
def sp_v (b : Bool) : Int32 := if b then 1 else 0
theorem sp_v_0 {b : Bool} : sp_v b = 0 ↔ b = false := by cases b <;> decide +kernel
theorem sp_b1' : ∀ i, i < 32 → bt 1 i = decide (i = 0) := by decide +kernel
theorem sp_bv (b : Bool) : ∀ i, i < 32 → bt (sp_v b) i = (b && decide (i = 0)) := by
  cases b <;> decide +kernel
theorem sp_bit (x : Int32) {t : Nat} (ht : t < 32) : (x >>> (nI t &&& 31)) &&& 1 = sp_v (bt x t) := by
  refine b_ext (fun i hi => ?_)
  rw [b_and, b_sshr t ht x hi, sp_b1' i hi, sp_bv _ i hi]
  by_cases e : i = 0
  · subst e
    rw [if_pos (by omega), Nat.add_zero]
  · rw [decide_eq_false e, Bool.and_false, Bool.and_false]
theorem sp_or (x : Int32) {t : Nat} (ht : t < 10) {i : Nat} (hi : i < 32) : bt (x ||| ((1 : Int32) <<< (nI t &&& 31))) i = (bt x i || decide (t = i)) := by
  rw [b_or, sp_b1 t ht i hi]
theorem sp_clr (x : Int32) {t : Nat} (ht : t < 10) {i : Nat} (hi : i < 32) : bt (x &&& (((1 : Int32) <<< (nI t &&& 31)) ^^^ (-1))) i = (bt x i && !decide (t = i)) := by
  rw [b_and, b_xor, sp_b1 t ht i hi, b_m1 i hi, Bool.xor_true]
def sp_M (a g : Nat → Int32) : Prop := ∀ p t, p < 20 → t < 10 → g (p * 10 + t) = sp_v (bt (a p) t)
def sp_C (c : Nat → Int32) : Prop := ∀ s, s < 10 → ∃ j, j < 4 ∧ c s = nI j
def sp_seen (c : Nat → Int32) : Nat → Int32
  | 0 => 0
  | n + 1 => sp_seen c n ||| ((1 : Int32) <<< (c n &&& 31))
theorem sp_seen16 : ∀ m, m < 16 → ∀ j, j < 4 → nI m ||| ((1 : Int32) <<< (nI j &&& 31)) = nI (m ||| 2 ^ j) ∧ (m ||| 2 ^ j) < 16 := by decide +kernel
theorem sp_seen_lt {c : Nat → Int32} (h : sp_C c) : ∀ n, n ≤ 10 → ∃ m, m < 16 ∧ sp_seen c n = nI m := by
  intro n
  induction n with
  | zero => exact fun _ => ⟨0, by omega, rfl⟩
  | succ n ih =>
    intro hn
    obtain ⟨m, hm, e⟩ := ih (by omega)
    obtain ⟨j, hj, ej⟩ := h n (by omega)
    have h1 := sp_seen16 m hm j hj
    exact ⟨_, h1.2, by rw [sp_seen, e, ej, h1.1]⟩
def sp_sz (x : Int32) : Nat → Int32
  | 0 => 0
  | n + 1 => sp_sz x n + ((x >>> (nI n &&& 31)) &&& 1)
