/-- how many of the first n cells are not 0 -/
def zl_cnt (f : Nat → Int32) : Nat → Nat
  | 0 => 0
  | n + 1 => zl_cnt f n + (if f n = 0 then 0 else 1)
/-- at how many of the first n cells f and g differ -/
def zl_dif (f g : Nat → Int32) : Nat → Nat
  | 0 => 0
  | n + 1 => zl_dif f g n + (if f n = g n then 0 else 1)
/-- the sum of the first n cells -/
def zl_sum (f : Nat → Int32) : Nat → Int32
  | 0 => 0
  | n + 1 => zl_sum f n + f n
/-- a, its first n cells overwritten by those of b -/
def zl_cp (a b : Nat → Int32) (n : Nat) : Nat → Int32 := fun j => if j < n then b j else a j
/-- a, its first n cells made 0 -/
def zl_zr (a : Nat → Int32) (n : Nat) : Nat → Int32 := fun j => if j < n then 0 else a j
/-- every cell holds 0 or 1 -/
def zl_01 (f : Nat → Int32) : Prop := ∀ j, f j = 0 ∨ f j = 1

theorem zl_cp_0 (a b : Nat → Int32) : zl_cp a b 0 = a := by
  funext j
  unfold zl_cp
  rw [if_neg (Nat.not_lt_zero j)]
theorem zl_cp_s (a b : Nat → Int32) (n : Nat) : upd (zl_cp a b n) n (b n) = zl_cp a b (n + 1) := by
  funext j
  unfold upd zl_cp
  by_cases h : j = n
  · subst h
    rw [if_pos rfl, if_pos (Nat.lt_succ_self j)]
  · rw [if_neg h]
    by_cases h2 : j < n
    · rw [if_pos h2, if_pos (by omega)]
    · rw [if_neg h2, if_neg (by omega)]
theorem zl_zr_0 (a : Nat → Int32) : zl_zr a 0 = a := by
  funext j
  unfold zl_zr
  rw [if_neg (Nat.not_lt_zero j)]
theorem zl_zr_s (a : Nat → Int32) (n : Nat) : upd (zl_zr a n) n 0 = zl_zr a (n + 1) := by
  funext j
  unfold upd zl_zr
  by_cases h : j = n
  · subst h
    rw [if_pos rfl, if_pos (Nat.lt_succ_self j)]
  · rw [if_neg h]
    by_cases h2 : j < n
    · rw [if_pos h2, if_pos (by omega)]
    · rw [if_neg h2, if_neg (by omega)]
theorem zl_cnt_le (f : Nat → Int32) : ∀ n, zl_cnt f n ≤ n := by
  intro n
  induction n with
  | zero => exact Nat.le_refl 0
  | succ n ih =>
    show zl_cnt f n + (if f n = 0 then 0 else 1) ≤ n + 1
    by_cases h : f n = 0
    · rw [if_pos h]; omega
    · rw [if_neg h]; omega
theorem zl_cnt_t {f : Nat → Int32} {n : Nat} (h : f n = 0) : zl_cnt f (n + 1) = zl_cnt f n := by
  show zl_cnt f n + (if f n = 0 then 0 else 1) = zl_cnt f n
  rw [if_pos h]; exact Nat.add_zero _
theorem zl_cnt_f {f : Nat → Int32} {n : Nat} (h : ¬ f n = 0) : zl_cnt f (n + 1) = zl_cnt f n + 1 := by
  show zl_cnt f n + (if f n = 0 then 0 else 1) = zl_cnt f n + 1
  rw [if_neg h]
theorem zl_dif_t {f g : Nat → Int32} {n : Nat} (h : f n = g n) : zl_dif f g (n + 1) = zl_dif f g n := by
  show zl_dif f g n + (if f n = g n then 0 else 1) = zl_dif f g n
  rw [if_pos h]; exact Nat.add_zero _
theorem zl_dif_f {f g : Nat → Int32} {n : Nat} (h : ¬ f n = g n) : zl_dif f g (n + 1) = zl_dif f g n + 1 := by
  show zl_dif f g n + (if f n = g n then 0 else 1) = zl_dif f g n + 1
  rw [if_neg h]
theorem zl_cnt_zr (a : Nat → Int32) (m : Nat) : ∀ n, n ≤ m → zl_cnt (zl_zr a m) n = 0 := by
  intro n
  induction n with
  | zero => intro _; rfl
  | succ n ih =>
    intro h
    have e : zl_zr a m n = 0 := by
      unfold zl_zr
      rw [if_pos (by omega)]
    rw [zl_cnt_t e]
    exact ih (by omega)
theorem zl_cnt_out {f : Nat → Int32} {k : Nat} {x : Int32} : ∀ n, n ≤ k → zl_cnt (upd f k x) n = zl_cnt f n := by
  intro n
  induction n with
  | zero => intro _; rfl
  | succ n ih =>
    intro h
    have e : upd f k x n = f n := by
      unfold upd
      rw [if_neg (by omega)]
    by_cases z : f n = 0
    · rw [zl_cnt_t z, zl_cnt_t (e.trans z)]
      exact ih (by omega)
    · rw [zl_cnt_f z, zl_cnt_f (fun q => z (e.symm.trans q)), ih (by omega)]
theorem zl_cnt_set {f : Nat → Int32} {k : Nat} (hf : f k = 0) : ∀ n, k < n → zl_cnt (upd f k 1) n = zl_cnt f n + 1 := by
  intro n
  induction n with
  | zero => intro h; omega
  | succ n ih =>
    intro h
    by_cases q : n = k
    · subst q
      have e : upd f n 1 n = 1 := by
        unfold upd
        rw [if_pos rfl]
      have z : ¬ upd f n 1 n = 0 := by rw [e]; decide
      rw [zl_cnt_f z, zl_cnt_t hf, zl_cnt_out n (Nat.le_refl n)]
    · have e : upd f k 1 n = f n := by
        unfold upd
        rw [if_neg q]
      by_cases z : f n = 0
      · rw [zl_cnt_t z, zl_cnt_t (e.trans z)]
        exact ih (by omega)
      · rw [zl_cnt_f z, zl_cnt_f (fun q => z (e.symm.trans q)), ih (by omega)]
theorem zl_upd_same {f : Nat → Int32} {k : Nat} {x : Int32} (h : f k = x) : upd f k x = f := by
  funext j
  unfold upd
  by_cases e : j = k
  · subst e; rw [if_pos rfl]; exact h.symm
  · rw [if_neg e]
theorem zl_01_zr {f : Nat → Int32} {n : Nat} (h : zl_01 f) : zl_01 (zl_zr f n) := by
  intro j
  unfold zl_zr
  by_cases e : j < n
  · rw [if_pos e]; exact Or.inl rfl
  · rw [if_neg e]; exact h j
theorem zl_01_upd {f : Nat → Int32} {k : Nat} (h : zl_01 f) : zl_01 (upd f k 1) := by
  intro j
  unfold upd
  by_cases e : j = k
  · rw [if_pos e]; exact Or.inr rfl
  · rw [if_neg e]; exact h j
theorem zl_n16 : nI 16 = 16 := by decide +kernel
theorem zl_n6 : nI 6 = 6 := by decide +kernel
theorem zl_b1 : vp_nar .boolean 1 = 1 := rfl
theorem zl_b0 : vp_nar .boolean 0 = 0 := rfl
theorem zl_00 : (0 : Int32) = 0 := rfl
theorem zl_10 : ¬ (1 : Int32) = 0 := by decide
theorem zl_cnt_0 : ∀ n, zl_cnt (fun _ => 0) n = 0 := by
  intro n
  induction n with
  | zero => rfl
  | succ n ih => rw [zl_cnt_t (f := fun _ => 0) rfl]; exact ih
theorem zl_cp_cp (a b : Nat → Int32) (n : Nat) : zl_cp a (zl_cp b a n) n = a := by
  funext j
  unfold zl_cp
  by_cases h : j < n
  · rw [if_pos h, if_pos h]
  · rw [if_neg h]
theorem zl_zr_zr (a : Nat → Int32) (n : Nat) : zl_zr (zl_zr a n) n = zl_zr a n := by
  funext j
  unfold zl_zr
  by_cases h : j < n
  · rw [if_pos h, if_pos h]
  · rw [if_neg h, if_neg h]
theorem zl_t16 : (16 : Int32) ≤ nI 16 := by rw [zl_n16]; exact Int32.le_refl 16
theorem zl_f16 {j : Nat} (h : j < 16) : ¬ (16 : Int32) ≤ nI j := by
  rw [← zl_n16]
  exact nI_ge h (by omega)
theorem zl_in {j : Nat} (h : j < 16) : vp_in (nI j) 16 := vp_in_nI h (by omega)
theorem zl_cl {j : Nat} (h : j < 16) : (nI j).toNatClampNeg = j := nI_clamp (by omega)
theorem zl_zst {a : Nat → Int32} {j : Nat} (h : j < 16) : upd (zl_zr a j) (nI j).toNatClampNeg (vp_nar .boolean 0) = zl_zr a (j + 1) := by
  rw [zl_cl h, zl_b0]
  exact zl_zr_s a j
theorem zl_cst {a b : Nat → Int32} {j : Nat} (h : j < 16) : upd (zl_cp a b j) (nI j).toNatClampNeg (b (nI j).toNatClampNeg) = zl_cp a b (j + 1) := by
  rw [zl_cl h]
  exact zl_cp_s a b j
theorem zl_ix (x : Int32) : (x < 0 ∨ 16 ≤ x) ∨ ∃ j : Nat, j < 16 ∧ x = nI j := by
  by_cases h0 : x < 0
  · exact Or.inl (Or.inl h0)
  · by_cases h1 : 16 ≤ x
    · exact Or.inl (Or.inr h1)
    · obtain ⟨j, hj, rfl⟩ := nI_of h0
      refine Or.inr ⟨j, ?_, rfl⟩
      rw [← zl_n16, nI_leI (by omega) hj] at h1
      omega
theorem zl_c6 {n : Nat} (h : n ≤ 16) : nI n = 6 ↔ n = 6 := by
  rw [← zl_n6]
  exact nI_eq (by omega) (by omega)
