def sp_P (N i : Nat) (a nw od : Nat → Int32) : Prop := ∀ q, q < N → a q = if q < i then nw q else od q
theorem sp_P0 (N : Nat) (a nw : Nat → Int32) : sp_P N 0 a nw a := fun q _ => (if_neg (Nat.not_lt_zero q)).symm
theorem sp_Pe {N : Nat} {a nw od : Nat → Int32} (h : sp_P N N a nw od) : ∀ q, q < N → a q = nw q := fun q hq => (h q hq).trans (if_pos hq)
theorem sp_Pu {N i : Nat} {a nw od : Nat → Int32} (h : sp_P N i a nw od) {x : Int32} (hx : x = nw i) : sp_P N (i + 1) (upd a i x) nw od := by
  intro q hq
  by_cases e : q = i
  · subst e
    rw [pk_us, if_pos (by omega), hx]
  · rw [pk_un e, h q hq]
    by_cases z : q < i
    · rw [if_pos z, if_pos (by omega)]
    · rw [if_neg z, if_neg (by omega)]
theorem sp_Pk {N i : Nat} {a nw od : Nat → Int32} (h : sp_P N i a nw od) (hx : od i = nw i) : sp_P N (i + 1) a nw od := by
  intro q hq
  rw [h q hq]
  by_cases e : q = i
  · subst e
    rw [if_neg (by omega), if_pos (by omega), hx]
  · by_cases z : q < i
    · rw [if_pos z, if_pos (by omega)]
    · rw [if_neg z, if_neg (by omega)]
theorem sp_Po {N i : Nat} {a nw od : Nat → Int32} (h : sp_P N i a nw od) (hi : i < N) : a i = od i := (h i hi).trans (if_neg (Nat.lt_irrefl i))
theorem sp_Pc {N i j : Nat} {a nw od : Nat → Int32} (h : sp_P N i a nw od) (e : i = j) : sp_P N j a nw od := e ▸ h
theorem sp_ix (p t : Nat) : nI p * 10 + nI t = nI (p * 10 + t) := by
  show nI p * nI 10 + nI t = _
  rw [pk_mul, nI_add]
theorem sp_ix2 (o s t : Nat) : nI o * 100 + nI s * 10 + nI t = nI ((o * 10 + s) * 10 + t) := by
  show nI o * nI 100 + nI s * nI 10 + nI t = _
  rw [pk_mul, pk_mul, nI_add, nI_add]
  exact congrArg nI (by omega)
theorem sp_ix3 (s : Nat) : (10 : Int32) + nI s = nI (10 + s) := nI_add 10 s
theorem sp_d10 {p : Nat} (h : p < 100) : nI p / 10 = nI (p / 10) := pk_div (d := 10) (by omega) (by decide) (by decide)
theorem sp_r10 {p : Nat} (h : p < 100) : nI p - nI p / 10 * 10 = nI (p % 10) := pk_rem (d := 10) (by omega) (by decide) (by decide)
noncomputable def sp_mem (P : Nat → Prop) : Nat → Int32
  | 0 => 0
  | n + 1 => @ite Int32 (P n) (Classical.propDecidable (P n)) (sp_mem P n ||| ((1 : Int32) <<< (nI n &&& 31))) (sp_mem P n)
theorem sp_mem_t {P : Nat → Prop} {n : Nat} (h : P n) : sp_mem P (n + 1) = sp_mem P n ||| ((1 : Int32) <<< (nI n &&& 31)) := by
  rw [sp_mem]
  exact if_pos h
theorem sp_mem_f {P : Nat → Prop} {n : Nat} (h : ¬ P n) : sp_mem P (n + 1) = sp_mem P n := by
  rw [sp_mem]
  exact if_neg h
theorem sp_mem_c {P Q : Nat → Prop} : ∀ n, (∀ t, t < n → (P t ↔ Q t)) → sp_mem P n = sp_mem Q n := by
  intro n
  induction n with
  | zero => exact fun _ => rfl
  | succ n ih =>
    intro h
    have h1 := ih (fun t ht => h t (by omega))
    by_cases e : P n
    · rw [sp_mem_t e, sp_mem_t ((h n (by omega)).mp e), h1]
    · rw [sp_mem_f e, sp_mem_f (fun z => e ((h n (by omega)).mpr z)), h1]
theorem sp_LT_t {g : Nat → Int32} {l : Nat → Nat} {p n : Nat} (h : g (p * 10 + n) = 0) : sp_LT g l p (n + 1) = sp_LT g l p n := by
  rw [sp_LT, if_pos h]
theorem sp_LT_f {g : Nat → Int32} {l : Nat → Nat} {p n : Nat} (h : ¬ g (p * 10 + n) = 0) : sp_LT g l p (n + 1) = sp_LT g l p n ||| ((1 : Int32) <<< (nI (l n) &&& 31)) := by
  rw [sp_LT, if_neg h]
theorem sp_cnt_t {l : Nat → Nat} {n : Nat} (h : l n = n) : sp_cnt l (n + 1) = sp_cnt l n + 1 := by
  rw [sp_cnt, if_pos h]
theorem sp_cnt_f {l : Nat → Nat} {n : Nat} (h : ¬ l n = n) : sp_cnt l (n + 1) = sp_cnt l n := by
  rw [sp_cnt, if_neg h]
theorem sp_sz16 : ∀ m, m < 16 → sp_sz (nI m) 10 = (nI m &&& 1) + ((nI m >>> ((1 : Int32) &&& 31)) &&& 1) + ((nI m >>> ((2 : Int32) &&& 31)) &&& 1) + ((nI m >>> ((3 : Int32) &&& 31)) &&& 1) := by decide +kernel
