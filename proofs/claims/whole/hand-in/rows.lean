section
/-- how many of the first n cells are not 0 -/
def zl_cnt (f : Nat → Int32) : Nat → Nat
  | 0 => 0
  | n + 1 => zl_cnt f n + (if f n = 0 then 0 else 1)
/-- at how many of the first n cells f and g differ -/
def zl_dif (f g : Nat → Int32) : Nat → Nat
  | 0 => 0
  | n + 1 => zl_dif f g n + (if f n = g n then 0 else 1)
/-- the sum of the first n cells -/
def zl_sum (f : Nat → Int32) : Nat → Int32
  | 0 => 0
  | n + 1 => zl_sum f n + f n
/-- a, its first n cells overwritten by those of b -/
def zl_cp (a b : Nat → Int32) (n : Nat) : Nat → Int32 := fun j => if j < n then b j else a j
/-- a, its first n cells made 0 -/
def zl_zr (a : Nat → Int32) (n : Nat) : Nat → Int32 := fun j => if j < n then 0 else a j
/-- every cell holds 0 or 1 -/
def zl_01 (f : Nat → Int32) : Prop := ∀ j, f j = 0 ∨ f j = 1

theorem zl_cp_0 (a b : Nat → Int32) : zl_cp a b 0 = a := by
  funext j
  unfold zl_cp
  rw [if_neg (Nat.not_lt_zero j)]
theorem zl_cp_s (a b : Nat → Int32) (n : Nat) : upd (zl_cp a b n) n (b n) = zl_cp a b (n + 1) := by
  funext j
  unfold upd zl_cp
  by_cases h : j = n
  · subst h
    rw [if_pos rfl, if_pos (Nat.lt_succ_self j)]
  · rw [if_neg h]
    by_cases h2 : j < n
    · rw [if_pos h2, if_pos (by omega)]
    · rw [if_neg h2, if_neg (by omega)]
theorem zl_zr_0 (a : Nat → Int32) : zl_zr a 0 = a := by
  funext j
  unfold zl_zr
  rw [if_neg (Nat.not_lt_zero j)]
theorem zl_zr_s (a : Nat → Int32) (n : Nat) : upd (zl_zr a n) n 0 = zl_zr a (n + 1) := by
  funext j
  unfold upd zl_zr
  by_cases h : j = n
  · subst h
    rw [if_pos rfl, if_pos (Nat.lt_succ_self j)]
  · rw [if_neg h]
    by_cases h2 : j < n
    · rw [if_pos h2, if_pos (by omega)]
    · rw [if_neg h2, if_neg (by omega)]
theorem zl_cnt_le (f : Nat → Int32) : ∀ n, zl_cnt f n ≤ n := by
  intro n
  induction n with
  | zero => exact Nat.le_refl 0
  | succ n ih =>
    show zl_cnt f n + (if f n = 0 then 0 else 1) ≤ n + 1
    by_cases h : f n = 0
    · rw [if_pos h]; omega
    · rw [if_neg h]; omega
theorem zl_cnt_t {f : Nat → Int32} {n : Nat} (h : f n = 0) : zl_cnt f (n + 1) = zl_cnt f n := by
  show zl_cnt f n + (if f n = 0 then 0 else 1) = zl_cnt f n
  rw [if_pos h]; exact Nat.add_zero _
theorem zl_cnt_f {f : Nat → Int32} {n : Nat} (h : ¬ f n = 0) : zl_cnt f (n + 1) = zl_cnt f n + 1 := by
  show zl_cnt f n + (if f n = 0 then 0 else 1) = zl_cnt f n + 1
  rw [if_neg h]
theorem zl_dif_t {f g : Nat → Int32} {n : Nat} (h : f n = g n) : zl_dif f g (n + 1) = zl_dif f g n := by
  show zl_dif f g n + (if f n = g n then 0 else 1) = zl_dif f g n
  rw [if_pos h]; exact Nat.add_zero _
theorem zl_dif_f {f g : Nat → Int32} {n : Nat} (h : ¬ f n = g n) : zl_dif f g (n + 1) = zl_dif f g n + 1 := by
  show zl_dif f g n + (if f n = g n then 0 else 1) = zl_dif f g n + 1
  rw [if_neg h]
theorem zl_cnt_zr (a : Nat → Int32) (m : Nat) : ∀ n, n ≤ m → zl_cnt (zl_zr a m) n = 0 := by
  intro n
  induction n with
  | zero => intro _; rfl
  | succ n ih =>
    intro h
    have e : zl_zr a m n = 0 := by
      unfold zl_zr
      rw [if_pos (by omega)]
    rw [zl_cnt_t e]
    exact ih (by omega)
theorem zl_cnt_out {f : Nat → Int32} {k : Nat} {x : Int32} : ∀ n, n ≤ k → zl_cnt (upd f k x) n = zl_cnt f n := by
  intro n
  induction n with
  | zero => intro _; rfl
  | succ n ih =>
    intro h
    have e : upd f k x n = f n := by
      unfold upd
      rw [if_neg (by omega)]
    by_cases z : f n = 0
    · rw [zl_cnt_t z, zl_cnt_t (e.trans z)]
      exact ih (by omega)
    · rw [zl_cnt_f z, zl_cnt_f (fun q => z (e.symm.trans q)), ih (by omega)]
theorem zl_cnt_set {f : Nat → Int32} {k : Nat} (hf : f k = 0) : ∀ n, k < n → zl_cnt (upd f k 1) n = zl_cnt f n + 1 := by
  intro n
  induction n with
  | zero => intro h; omega
  | succ n ih =>
    intro h
    by_cases q : n = k
    · subst q
      have e : upd f n 1 n = 1 := by
        unfold upd
        rw [if_pos rfl]
      have z : ¬ upd f n 1 n = 0 := by rw [e]; decide
      rw [zl_cnt_f z, zl_cnt_t hf, zl_cnt_out n (Nat.le_refl n)]
    · have e : upd f k 1 n = f n := by
        unfold upd
        rw [if_neg q]
      by_cases z : f n = 0
      · rw [zl_cnt_t z, zl_cnt_t (e.trans z)]
        exact ih (by omega)
      · rw [zl_cnt_f z, zl_cnt_f (fun q => z (e.symm.trans q)), ih (by omega)]
theorem zl_upd_same {f : Nat → Int32} {k : Nat} {x : Int32} (h : f k = x) : upd f k x = f := by
  funext j
  unfold upd
  by_cases e : j = k
  · subst e; rw [if_pos rfl]; exact h.symm
  · rw [if_neg e]
theorem zl_01_zr {f : Nat → Int32} {n : Nat} (h : zl_01 f) : zl_01 (zl_zr f n) := by
  intro j
  unfold zl_zr
  by_cases e : j < n
  · rw [if_pos e]; exact Or.inl rfl
  · rw [if_neg e]; exact h j
theorem zl_01_upd {f : Nat → Int32} {k : Nat} (h : zl_01 f) : zl_01 (upd f k 1) := by
  intro j
  unfold upd
  by_cases e : j = k
  · rw [if_pos e]; exact Or.inr rfl
  · rw [if_neg e]; exact h j
theorem zl_n16 : nI 16 = 16 := by decide +kernel
theorem zl_n6 : nI 6 = 6 := by decide +kernel
theorem zl_b1 : vp_nar .boolean 1 = 1 := rfl
theorem zl_b0 : vp_nar .boolean 0 = 0 := rfl
theorem zl_00 : (0 : Int32) = 0 := rfl
theorem zl_10 : ¬ (1 : Int32) = 0 := by decide
theorem zl_cnt_0 : ∀ n, zl_cnt (fun _ => 0) n = 0 := by
  intro n
  induction n with
  | zero => rfl
  | succ n ih => rw [zl_cnt_t (f := fun _ => 0) rfl]; exact ih
theorem zl_cp_cp (a b : Nat → Int32) (n : Nat) : zl_cp a (zl_cp b a n) n = a := by
  funext j
  unfold zl_cp
  by_cases h : j < n
  · rw [if_pos h, if_pos h]
  · rw [if_neg h]
theorem zl_zr_zr (a : Nat → Int32) (n : Nat) : zl_zr (zl_zr a n) n = zl_zr a n := by
  funext j
  unfold zl_zr
  by_cases h : j < n
  · rw [if_pos h, if_pos h]
  · rw [if_neg h, if_neg h]
theorem zl_t16 : (16 : Int32) ≤ nI 16 := by rw [zl_n16]; exact Int32.le_refl 16
theorem zl_f16 {j : Nat} (h : j < 16) : ¬ (16 : Int32) ≤ nI j := by
  rw [← zl_n16]
  exact nI_ge h (by omega)
theorem zl_in {j : Nat} (h : j < 16) : vp_in (nI j) 16 := vp_in_nI h (by omega)
theorem zl_cl {j : Nat} (h : j < 16) : (nI j).toNatClampNeg = j := nI_clamp (by omega)
theorem zl_zst {a : Nat → Int32} {j : Nat} (h : j < 16) : upd (zl_zr a j) (nI j).toNatClampNeg (vp_nar .boolean 0) = zl_zr a (j + 1) := by
  rw [zl_cl h, zl_b0]
  exact zl_zr_s a j
theorem zl_cst {a b : Nat → Int32} {j : Nat} (h : j < 16) : upd (zl_cp a b j) (nI j).toNatClampNeg (b (nI j).toNatClampNeg) = zl_cp a b (j + 1) := by
  rw [zl_cl h]
  exact zl_cp_s a b j
theorem zl_ix (x : Int32) : (x < 0 ∨ 16 ≤ x) ∨ ∃ j : Nat, j < 16 ∧ x = nI j := by
  by_cases h0 : x < 0
  · exact Or.inl (Or.inl h0)
  · by_cases h1 : 16 ≤ x
    · exact Or.inl (Or.inr h1)
    · obtain ⟨j, hj, rfl⟩ := nI_of h0
      refine Or.inr ⟨j, ?_, rfl⟩
      rw [← zl_n16, nI_leI (by omega) hj] at h1
      omega
theorem zl_c6 {n : Nat} (h : n ≤ 16) : nI n = 6 ↔ n = 6 := by
  rw [← zl_n6]
  exact nI_eq (by omega) (by omega)
end
section
/-! X's private methods -/
theorem zx_fg {post : Int32 → SX → Prop} {x c o g : Int32} {cu du fr : Nat → Int32} (h : post x (0, o, g, cu, du, zl_zr fr 16)) : ∀ d j : Nat, j + d = 16 → wX_forgetUnsynced_7 post x c o g (d + 1) (nI j) cu du (zl_zr fr j) := by
  intro d
  induction d with
  | zero =>
    intro j hj
    have e : j = 16 := by omega
    subst e
    exact br_t zl_t16 h
  | succ d ih =>
    intro j hj
    have hl : j < 16 := by omega
    exact br_f (zl_f16 hl) ⟨zl_in hl, nm_r (zl_zst hl) (nm_r (nI_1 j) (ih (j + 1) (by omega)))⟩
theorem zx_forget {post : Int32 → SX → Prop} {c o g : Int32} {cu du fr : Nat → Int32} (h : post c (0, o, g, cu, du, zl_zr fr 16)) : wpX_forgetUnsynced post (c, o, g, cu, du, fr) := by
  have q := zx_fg (post := post) (x := c) (c := c) h 16 0 rfl
  rw [nI_0, zl_zr_0] at q
  exact Exists.intro 17 q
theorem zx_kp {post : Int32 → SX → Prop} {c o g : Int32} {cu du fr : Nat → Int32} (h : post c (0, o, g, cu, zl_cp du cu 16, zl_zr fr 16)) : ∀ d j : Nat, j + d = 16 → wX_keepCurrent_2 post c o g (d + 1) (nI j) cu (zl_cp du cu j) fr := by
  intro d
  induction d with
  | zero =>
    intro j hj
    have e : j = 16 := by omega
    subst e
    exact br_t zl_t16 (zx_forget h)
  | succ d ih =>
    intro j hj
    have hl : j < 16 := by omega
    exact br_f (zl_f16 hl) ⟨zl_in hl, zl_in hl, nm_r (zl_cst hl) (nm_r (nI_1 j) (ih (j + 1) (by omega)))⟩
theorem zx_keep {post : Int32 → SX → Prop} {c o g : Int32} {cu du fr : Nat → Int32} (h : post c (0, o, g, cu, zl_cp du cu 16, zl_zr fr 16)) : wpX_keepCurrent post (c, o, g, cu, du, fr) := by
  have q := zx_kp (post := post) h 16 0 rfl
  rw [nI_0, zl_cp_0] at q
  exact Exists.intro 17 q
theorem zx_rt {post : Int32 → SX → Prop} {c o g : Int32} {cu du fr : Nat → Int32} (h : post c (0, o, g, zl_cp cu du 16, du, zl_zr fr 16)) : ∀ d j : Nat, j + d = 16 → wX_returnToDurable_2 post c o g (d + 1) (nI j) (zl_cp cu du j) du fr := by
  intro d
  induction d with
  | zero =>
    intro j hj
    have e : j = 16 := by omega
    subst e
    exact br_t zl_t16 (zx_forget h)
  | succ d ih =>
    intro j hj
    have hl : j < 16 := by omega
    exact br_f (zl_f16 hl) ⟨zl_in hl, zl_in hl, nm_r (zl_cst hl) (nm_r (nI_1 j) (ih (j + 1) (by omega)))⟩
theorem zx_ret {post : Int32 → SX → Prop} {c o g : Int32} {cu du fr : Nat → Int32} (h : post c (0, o, g, zl_cp cu du 16, du, zl_zr fr 16)) : wpX_returnToDurable post (c, o, g, cu, du, fr) := by
  have q := zx_rt (post := post) h 16 0 rfl
  rw [nI_0, zl_cp_0] at q
  exact Exists.intro 17 q
theorem zx_lose {post : Int32 → SX → Prop} {c o g : Int32} {cu du fr : Nat → Int32} (h : post c (0, 0, 0, zl_cp cu du 16, du, zl_zr fr 16)) : wpX_losePower post (c, o, g, cu, du, fr) := by
  unfold wpX_losePower
  dsimp only
  refine zx_ret ?_
  exact h
theorem zx_lose2 {post : Int32 → SX → Prop} {o g : Int32} {cu du fr : Nat → Int32} (h : post 0 (0, 0, 0, cu, zl_cp du cu 16, zl_zr fr 16)) : wpX_losePower post (0, o, g, cu, zl_cp du cu 16, zl_zr fr 16) := by
  refine zx_lose ?_
  rw [zl_cp_cp, zl_zr_zr]
  exact h
theorem zx_good_n {post : Int32 → Prop} {x : Int32} (hx : x < 0 ∨ 16 ≤ x) (h : post 0) : wpX_isGood post x := by
  by_cases h0 : x < 0
  · exact br_t h0 h
  · exact br_f h0 (br_t (hx.resolve_left h0) h)
theorem zx_good_y {post : Int32 → Prop} {j : Nat} (hj : j < 16) (h : post 1) : wpX_isGood post (nI j) :=
  br_f (nI_pos (by omega)) (br_f (zl_f16 hj) h)
theorem zx_room_y {post : Int32 → Prop} {o g : Int32} {cu du fr : Nat → Int32} {j : Nat} (hj : j < 16) (h6 : zl_cnt fr 16 = 6) (hz : fr j = 0) (h : post 1) : wpX_needsRoom post (nI (zl_cnt fr 16), o, g, cu, du, fr) (nI j) := by
  have hz' : fr (nI j).toNatClampNeg = 0 := by rw [zl_cl hj]; exact hz
  exact br_t ((zl_c6 (zl_cnt_le fr 16)).mpr h6) ⟨zl_in hj, br_t hz' h⟩
theorem zx_room_n {post : Int32 → Prop} {o g : Int32} {cu du fr : Nat → Int32} {j : Nat} (hj : j < 16) (hn : ¬ (zl_cnt fr 16 = 6 ∧ fr j = 0)) (h : post 0) : wpX_needsRoom post (nI (zl_cnt fr 16), o, g, cu, du, fr) (nI j) := by
  by_cases h6 : zl_cnt fr 16 = 6
  · have hz' : ¬ fr (nI j).toNatClampNeg = 0 := by rw [zl_cl hj]; exact fun z => hn ⟨h6, z⟩
    exact br_t ((zl_c6 (zl_cnt_le fr 16)).mpr h6) ⟨zl_in hj, br_f hz' h⟩
  · exact br_f (fun z => h6 ((zl_c6 (zl_cnt_le fr 16)).mp z)) h
theorem zx_put13 {post : SX → Prop} {o g x : Int32} {cu du fr : Nat → Int32} {j : Nat} (hj : j < 16) (h01 : zl_01 fr) (h : post (nI (zl_cnt (upd fr j 1) 16), o, g, upd cu j x, du, upd fr j 1)) : wX_put_13 post (nI j) x (nI (zl_cnt fr 16)) o g cu du fr := by
  have e1 : upd fr (nI j).toNatClampNeg (vp_nar .boolean 1) = upd fr j 1 := by rw [zl_cl hj, zl_b1]
  have e3 : upd cu (nI j).toNatClampNeg x = upd cu j x := by rw [zl_cl hj]
  by_cases z : fr j = 0
  · have z' : fr (nI j).toNatClampNeg = 0 := by rw [zl_cl hj]; exact z
    have e2 : nI (zl_cnt fr 16) + 1 = nI (zl_cnt (upd fr j 1) 16) := by rw [zl_cnt_set z 16 hj, nI_1]
    exact And.intro (zl_in hj) (br_t z' ⟨zl_in hj, nm_r e1 (nm_r e2 ⟨zl_in hj, nm_r e3 h⟩)⟩)
  · have z' : ¬ fr (nI j).toNatClampNeg = 0 := by rw [zl_cl hj]; exact z
    rw [zl_upd_same ((h01 j).resolve_left z)] at h
    exact And.intro (zl_in hj) (br_f z' ⟨zl_in hj, nm_r e3 h⟩)
/-! Y's private methods -/
theorem zy_fc {post : Int32 → Prop} {o g : Int32} {cu du fr : Nat → Int32} (h : post (nI (zl_cnt fr 16))) : ∀ d j : Nat, j + d = 16 → wY_freshCount_4 post o g cu du fr (d + 1) (nI (zl_cnt fr j)) (nI j) := by
  intro d
  induction d with
  | zero =>
    intro j hj
    have e : j = 16 := by omega
    subst e
    exact br_t zl_t16 h
  | succ d ih =>
    intro j hj
    have hl : j < 16 := by omega
    have q := ih (j + 1) (by omega)
    by_cases z : fr j = 0
    · have z' : fr (nI j).toNatClampNeg = 0 := by rw [zl_cl hl]; exact z
      rw [zl_cnt_t z] at q
      exact br_f (zl_f16 hl) ⟨zl_in hl, br_t z' (nm_r (nI_1 j) q)⟩
    · have z' : ¬ fr (nI j).toNatClampNeg = 0 := by rw [zl_cl hl]; exact z
      rw [zl_cnt_f z] at q
      exact br_f (zl_f16 hl) ⟨zl_in hl, br_f z' (nm_r (nI_1 _) (nm_r (nI_1 j) q))⟩
theorem zy_fresh {post : Int32 → Prop} {o g : Int32} {cu du fr : Nat → Int32} (h : post (nI (zl_cnt fr 16))) : wpY_freshCount post (o, g, cu, du, fr) := by
  have q := zy_fc (post := post) (o := o) (g := g) (cu := cu) (du := du) (fr := fr) h 16 0 rfl
  exact Exists.intro 17 q
theorem zy_st1 {post : Int32 → SY → Prop} {x o g : Int32} {cu du fr : Nat → Int32} (h : post x (o, g, cu, zl_cp du cu 16, zl_zr fr 16)) : ∀ d j : Nat, j + d = 16 → wY_settle_7 post 1 x o g (d + 1) (nI j) cu (zl_cp du cu j) (zl_zr fr j) := by
  intro d
  induction d with
  | zero =>
    intro j hj
    have e : j = 16 := by omega
    subst e
    exact br_t zl_t16 h
  | succ d ih =>
    intro j hj
    have hl : j < 16 := by omega
    exact br_f (zl_f16 hl) (br_f zl_10 ⟨zl_in hl, zl_in hl, nm_r (zl_cst hl) ⟨zl_in hl, nm_r (zl_zst hl) (nm_r (nI_1 j) (ih (j + 1) (by omega)))⟩⟩)
theorem zy_st0 {post : Int32 → SY → Prop} {x o g : Int32} {cu du fr : Nat → Int32} (h : post x (o, g, zl_cp cu du 16, du, zl_zr fr 16)) : ∀ d j : Nat, j + d = 16 → wY_settle_7 post 0 x o g (d + 1) (nI j) (zl_cp cu du j) du (zl_zr fr j) := by
  intro d
  induction d with
  | zero =>
    intro j hj
    have e : j = 16 := by omega
    subst e
    exact br_t zl_t16 h
  | succ d ih =>
    intro j hj
    have hl : j < 16 := by omega
    exact br_f (zl_f16 hl) (br_t zl_00 ⟨zl_in hl, zl_in hl, nm_r (zl_cst hl) ⟨zl_in hl, nm_r (zl_zst hl) (nm_r (nI_1 j) (ih (j + 1) (by omega)))⟩⟩)
theorem zy_settle1 {post : Int32 → SY → Prop} {o g : Int32} {cu du fr : Nat → Int32} (h : post (nI (zl_cnt fr 16)) (o, g, cu, zl_cp du cu 16, zl_zr fr 16)) : wpY_settle post (o, g, cu, du, fr) 1 := by
  have q := zy_st1 (post := post) h 16 0 rfl
  rw [nI_0, zl_cp_0, zl_zr_0] at q
  unfold wpY_settle
  dsimp only
  refine zy_fresh ?_
  exact Exists.intro 17 q
theorem zy_settle0 {post : Int32 → SY → Prop} {o g : Int32} {cu du fr : Nat → Int32} (h : post (nI (zl_cnt fr 16)) (o, g, zl_cp cu du 16, du, zl_zr fr 16)) : wpY_settle post (o, g, cu, du, fr) 0 := by
  have q := zy_st0 (post := post) h 16 0 rfl
  rw [nI_0, zl_cp_0, zl_zr_0] at q
  unfold wpY_settle
  dsimp only
  refine zy_fresh ?_
  exact Exists.intro 17 q
theorem zy_bad_n {post : Int32 → Prop} {o g : Int32} {cu du fr : Nat → Int32} {x : Int32} (hx : x < 0 ∨ 16 ≤ x) (h : post 1) : wpY_bad post (o, g, cu, du, fr) x := by
  by_cases h0 : x < 0
  · exact br_t h0 h
  · have h1 : ¬ x ≤ 15 := fun q => absurd (Int32.le_trans (hx.resolve_left h0) q) (by decide)
    exact br_f h0 (br_f h1 h)
theorem zy_bad_y {post : Int32 → Prop} {o g : Int32} {cu du fr : Nat → Int32} {j : Nat} (hj : j < 16) (h : post 0) : wpY_bad post (o, g, cu, du, fr) (nI j) := by
  have e : nI 15 = 15 := by decide +kernel
  have h1 : nI j ≤ 15 := by rw [← e]; exact nI_le (by omega) (by omega)
  exact br_f (nI_pos (by omega)) (br_t h1 h)
theorem zy_put31 {post : SY → Prop} {o g x : Int32} {cu du fr : Nat → Int32} {j : Nat} (hj : j < 16) (h : post (o, g, upd cu j x, du, upd fr j 1)) : wY_put_31 post (nI j) x o g cu du fr := by
  have e1 : upd fr (nI j).toNatClampNeg (vp_nar .boolean 1) = upd fr j 1 := by rw [zl_cl hj, zl_b1]
  have e3 : upd cu (nI j).toNatClampNeg x = upd cu j x := by rw [zl_cl hj]
  exact And.intro (zl_in hj) (nm_r e3 ⟨zl_in hj, nm_r e1 h⟩)
/-! both sides' put: one pair of states that both reach -/
theorem zp_put {o g x : Int32} {cu du fr : Nat → Int32} {j : Nat} (hj : j < 16) (h01 : zl_01 fr) (hg : g = 0 ∨ ¬ (zl_cnt fr 16 = 6 ∧ fr j = 0)) :
    ∃ cu' du' fr' : Nat → Int32, zl_01 fr' ∧ (∀ post : SX → Prop, post (nI (zl_cnt fr' 16), o, g, cu', du', fr') → wpX_put post (nI (zl_cnt fr 16), o, g, cu, du, fr) (nI j) x) ∧ (∀ post : SY → Prop, post (o, g, cu', du', fr') → wpY_put post (o, g, cu, du, fr) (nI j) x) := by
  by_cases hf : zl_cnt fr 16 = 6 ∧ fr j = 0
  · have g0 : g = 0 := hg.resolve_right (fun q => q hf)
    have hz' : fr (nI j).toNatClampNeg = 0 := by rw [zl_cl hj]; exact hf.2
    have h6 : nI (zl_cnt fr 16) = 6 := (zl_c6 (zl_cnt_le fr 16)).mpr hf.1
    refine ⟨upd cu j x, zl_cp du cu 16, upd (zl_zr fr 16) j 1, zl_01_upd (zl_01_zr h01), fun post h => ?_, fun post h => ?_⟩
    · unfold wpX_put
      dsimp only
      refine zx_room_y hj hf.1 hf.2 (br_f zl_10 ?_)
      refine zx_keep ?_
      have q := zx_put13 (post := post) (x := x) (cu := cu) hj (zl_01_zr (n := 16) h01) h
      rw [zl_cnt_zr fr 16 16 (Nat.le_refl 16), nI_0] at q
      exact q
    · refine br_t g0 ?_
      refine zy_fresh (br_t h6 ⟨zl_in hj, br_t hz' ?_⟩)
      refine zy_settle1 ?_
      exact zy_put31 hj h
  · refine ⟨upd cu j x, du, upd fr j 1, zl_01_upd h01, fun post h => ?_, fun post h => ?_⟩
    · unfold wpX_put
      dsimp only
      refine zx_room_n hj hf (br_t zl_00 ?_)
      exact zx_put13 hj h01 h
    · have q : wY_put_31 post (nI j) x o g cu du fr := zy_put31 hj h
      by_cases g0 : g = 0
      · refine br_t g0 (zy_fresh ?_)
        by_cases h6 : zl_cnt fr 16 = 6
        · have hz' : ¬ fr (nI j).toNatClampNeg = 0 := by rw [zl_cl hj]; exact fun z => hf ⟨h6, z⟩
          exact br_t ((zl_c6 (zl_cnt_le fr 16)).mpr h6) ⟨zl_in hj, br_f hz' q⟩
        · exact br_f (fun z => h6 ((zl_c6 (zl_cnt_le fr 16)).mp z)) q
      · exact br_f g0 q
end
section
/-! pending, sum and fill: the loops of both sides -/
theorem zx_pd {post : Int32 → Prop} {c o g : Int32} {cu du fr : Nat → Int32} (h : post (nI (zl_dif cu du 16))) : ∀ d j : Nat, j + d = 16 → wX_pending_13 post c o g cu du fr (d + 1) (nI (zl_dif cu du j)) (nI j) := by
  intro d
  induction d with
  | zero =>
    intro j hj
    have e : j = 16 := by omega
    subst e
    exact br_t zl_t16 h
  | succ d ih =>
    intro j hj
    have hl : j < 16 := by omega
    have q := ih (j + 1) (by omega)
    by_cases z : cu j = du j
    · have z' : cu (nI j).toNatClampNeg = du (nI j).toNatClampNeg := by rw [zl_cl hl]; exact z
      rw [zl_dif_t z] at q
      exact br_f (zl_f16 hl) ⟨zl_in hl, zl_in hl, br_t z' (nm_r (nI_1 j) q)⟩
    · have z' : ¬ cu (nI j).toNatClampNeg = du (nI j).toNatClampNeg := by rw [zl_cl hl]; exact z
      rw [zl_dif_f z] at q
      exact br_f (zl_f16 hl) ⟨zl_in hl, zl_in hl, br_f z' (nm_r (nI_1 _) (nm_r (nI_1 j) q))⟩
theorem zy_pd {post : Int32 → Prop} {o g : Int32} {cu du fr : Nat → Int32} (h : post (nI (zl_dif cu du 16))) : ∀ d j : Nat, j + d = 16 → wY_pending_13 post o g cu du fr (d + 1) (nI (zl_dif cu du j)) (nI j) := by
  intro d
  induction d with
  | zero =>
    intro j hj
    have e : j = 16 := by omega
    subst e
    exact br_t zl_t16 h
  | succ d ih =>
    intro j hj
    have hl : j < 16 := by omega
    have q := ih (j + 1) (by omega)
    by_cases z : cu j = du j
    · have z' : cu (nI j).toNatClampNeg = du (nI j).toNatClampNeg := by rw [zl_cl hl]; exact z
      rw [zl_dif_t z] at q
      exact br_f (zl_f16 hl) ⟨zl_in hl, zl_in hl, br_t z' (nm_r (nI_1 j) q)⟩
    · have z' : ¬ cu (nI j).toNatClampNeg = du (nI j).toNatClampNeg := by rw [zl_cl hl]; exact z
      rw [zl_dif_f z] at q
      exact br_f (zl_f16 hl) ⟨zl_in hl, zl_in hl, br_f z' (nm_r (nI_1 _) (nm_r (nI_1 j) q))⟩
theorem zl_sst {f : Nat → Int32} {j : Nat} (h : j < 16) : zl_sum f j + f (nI j).toNatClampNeg = zl_sum f (j + 1) := by
  rw [zl_cl h]
  rfl
theorem zx_sm {post : Int32 → Prop} {c o g : Int32} {cu du fr : Nat → Int32} (h : post (zl_sum cu 16)) : ∀ d j : Nat, j + d = 16 → wX_sum_13 post c o g cu du fr (d + 1) (zl_sum cu j) (nI j) := by
  intro d
  induction d with
  | zero =>
    intro j hj
    have e : j = 16 := by omega
    subst e
    exact br_t zl_t16 h
  | succ d ih =>
    intro j hj
    have hl : j < 16 := by omega
    exact br_f (zl_f16 hl) ⟨zl_in hl, nm_r (zl_sst hl) (nm_r (nI_1 j) (ih (j + 1) (by omega)))⟩
theorem zy_sm {post : Int32 → Prop} {o g : Int32} {cu du fr : Nat → Int32} (h : (o = 0 → post 0) ∧ (¬ o = 0 → post (zl_sum cu 16))) : ∀ d j : Nat, j + d = 16 → wY_sum_4 post o g cu du fr (d + 1) (zl_sum cu j) (nI j) := by
  intro d
  induction d with
  | zero =>
    intro j hj
    have e : j = 16 := by omega
    subst e
    exact br_t zl_t16 h
  | succ d ih =>
    intro j hj
    have hl : j < 16 := by omega
    exact br_f (zl_f16 hl) ⟨zl_in hl, nm_r (zl_sst hl) (nm_r (nI_1 j) (ih (j + 1) (by omega)))⟩
theorem zp_fill {o x s : Int32} {f m : Nat} (hm : f + m ≤ 16) : ∀ d j : Nat, j + d = m → ∀ cu du fr : Nat → Int32, zl_01 fr →
    ∃ cu' du' fr' : Nat → Int32, zl_01 fr' ∧ (∀ post : Int32 → SX → Prop, post 0 (nI (zl_cnt fr' 16), o, 0, cu', du', fr') → wX_fill_48 post (nI f) (nI m) x s (d + 1) (nI j) (nI (zl_cnt fr 16)) o 0 cu du fr) ∧ (∀ post : Int32 → SY → Prop, post 0 (o, 0, cu', du', fr') → wY_fill_48 post (nI f) (nI m) x s (d + 1) (nI j) o 0 cu du fr) := by
  intro d
  induction d with
  | zero =>
    intro j hj cu du fr h01
    have hl : nI m ≤ nI j := nI_le (by omega) (by omega)
    exact ⟨cu, du, fr, h01, fun post h => br_t hl h, fun post h => br_t hl h⟩
  | succ d ih =>
    intro j hj cu du fr h01
    have hl : ¬ nI m ≤ nI j := nI_ge (by omega) (by omega)
    obtain ⟨cu1, du1, fr1, h1, pX, pY⟩ := zp_put (o := o) (g := 0) (x := x + nI j * s) (cu := cu) (du := du) (fr := fr) (j := f + j) (by omega) h01 (Or.inl rfl)
    obtain ⟨cu2, du2, fr2, h2, iX, iY⟩ := ih (j + 1) (by omega) cu1 du1 fr1 h1
    refine ⟨cu2, du2, fr2, h2, fun post h => ?_, fun post h => ?_⟩
    · refine br_f hl ?_
      rw [nI_add f j]
      refine pX _ ?_
      dsimp only
      exact nm_r (nI_1 j) (iX post h)
    · refine br_f hl ?_
      rw [nI_add f j]
      refine pY _ ?_
      dsimp only
      exact nm_r (nI_1 j) (iY post h)
theorem zl_sub {a b : Nat} (h : b ≤ a) : nI a - nI b = nI (a - b) := by
  have e : nI (a - b) + nI b = nI a := by rw [nI_add, Nat.sub_add_cancel h]
  rw [← e]
  exact Int32.add_sub_cancel _ _
end
section
/-- both sides hold the same blocks, the same durable blocks, the same marks and flags; the class's counter counts the marks -/
def i_Rel (_ : Nat) (u : SX) (v : SY) : Prop := ∃ (o g : Int32) (cu du fr : Nat → Int32), zl_01 fr ∧ u = (nI (zl_cnt fr 16), o, g, cu, du, fr) ∧ v = (o, g, cu, du, fr)
theorem zl_rel {k : Nat} {o g : Int32} {cu du fr : Nat → Int32} (h : zl_01 fr) : i_Rel k (nI (zl_cnt fr 16), o, g, cu, du, fr) (o, g, cu, du, fr) := ⟨o, g, cu, du, fr, h, rfl, rfl⟩
theorem zl_rel0 {k : Nat} {o g : Int32} {cu du fr : Nat → Int32} (h : zl_01 fr) : i_Rel k (0, o, g, cu, du, zl_zr fr 16) (o, g, cu, du, zl_zr fr 16) := by
  have q := zl_rel (k := k) (o := o) (g := g) (cu := cu) (du := du) (zl_01_zr (n := 16) h)
  rw [zl_cnt_zr fr 16 16 (Nat.le_refl 16), nI_0] at q
  exact q
theorem i_up {k : Nat} {u : SX} {v : SY} (h : i_Rel k u v) : i_Rel (k + 5) u v := h
theorem i_vc0 : wpX_init (fun u => wpY_init (fun v => i_Rel 0 u v)) := by
  have q := zl_rel (k := 0) (o := 1) (g := 0) (cu := fun _ => 0) (du := fun _ => 0) (fr := fun _ => 0) (fun _ => Or.inl rfl)
  rw [zl_cnt_0, nI_0] at q
  exact q
theorem i_vc_up {k : Nat} {u : SX} {v : SY} (I : i_Rel k u v) (hk : k + 5 ≤ 2560) : wpX_up (fun r => wpY_up (fun r' => r' = r ∧ i_Rel (k + 5) u v) v) u := by
  obtain ⟨o, g, cu, du, fr, h01, rfl, rfl⟩ := I
  by_cases ho : o = 0
  · exact br_t ho (br_t ho ⟨rfl, zl_rel h01⟩)
  · exact br_f ho (br_f ho ⟨rfl, zl_rel h01⟩)
theorem i_vc_read {k : Nat} {u : SX} {v : SY} (I : i_Rel k u v) (hk : k + 5 ≤ 2560) (v1 : Int32) : wpX_read (fun r => wpY_read (fun r' => r' = r ∧ i_Rel (k + 5) u v) v v1) u v1 := by
  obtain ⟨o, g, cu, du, fr, h01, rfl, rfl⟩ := I
  by_cases ho : o = 0
  · exact br_t ho (br_t ho ⟨rfl, zl_rel h01⟩)
  · refine br_f ho ?_
    rcases zl_ix v1 with hb | ⟨j, hj, rfl⟩
    · refine zx_good_n hb (br_t zl_00 ?_)
      refine br_f ho ?_
      exact zy_bad_n hb (br_f zl_10 ⟨rfl, zl_rel h01⟩)
    · refine zx_good_y hj (br_f zl_10 ⟨zl_in hj, ?_⟩)
      refine br_f ho ?_
      exact zy_bad_y hj (br_t zl_00 ⟨zl_in hj, rfl, zl_rel h01⟩)
theorem i_vc_write {k : Nat} {u : SX} {v : SY} (I : i_Rel k u v) (hk : k + 5 ≤ 2560) (v1 : Int32) (v2 : Int32) : wpX_write (fun r u' => wpY_write (fun r' v' => r' = r ∧ i_Rel (k + 5) u' v') v v1 v2) u v1 v2 := by
  obtain ⟨o, g, cu, du, fr, h01, rfl, rfl⟩ := I
  by_cases ho : o = 0
  · exact br_t ho (br_t ho ⟨rfl, zl_rel h01⟩)
  · refine br_f ho ?_
    rcases zl_ix v1 with hb | ⟨j, hj, rfl⟩
    · refine zx_good_n hb (br_t zl_00 ?_)
      refine br_f ho ?_
      exact zy_bad_n hb (br_f zl_10 ⟨rfl, zl_rel h01⟩)
    · refine zx_good_y hj (br_f zl_10 ?_)
      by_cases hg : g = 0
      · obtain ⟨cu1, du1, fr1, h1, pX, pY⟩ := zp_put (o := o) (g := g) (x := v2) (cu := cu) (du := du) (fr := fr) hj h01 (Or.inl hg)
        refine br_t hg ?_
        unfold wX_write_37
        refine pX _ ?_
        dsimp only
        refine br_f ho ?_
        refine zy_bad_y hj (br_t zl_00 (br_t hg ?_))
        unfold wY_write_48
        refine pY _ ?_
        exact ⟨rfl, zl_rel h1⟩
      · refine br_f hg ?_
        by_cases hf : zl_cnt fr 16 = 6 ∧ fr j = 0
        · refine zx_room_y hj hf.1 hf.2 (br_f zl_10 ?_)
          have hz' : fr (nI j).toNatClampNeg = 0 := by rw [zl_cl hj]; exact hf.2
          refine br_f ho ?_
          refine zy_bad_y hj (br_t zl_00 (br_f hg ?_))
          exact zy_fresh (br_t ((zl_c6 (zl_cnt_le fr 16)).mpr hf.1) ⟨zl_in hj, br_t hz' ⟨rfl, zl_rel h01⟩⟩)
        · obtain ⟨cu1, du1, fr1, h1, pX, pY⟩ := zp_put (o := o) (g := g) (x := v2) (cu := cu) (du := du) (fr := fr) hj h01 (Or.inr hf)
          refine zx_room_n hj hf (br_t zl_00 ?_)
          unfold wX_write_37
          refine pX _ ?_
          dsimp only
          refine br_f ho ?_
          refine zy_bad_y hj (br_t zl_00 (br_f hg ?_))
          refine zy_fresh ?_
          by_cases h6 : zl_cnt fr 16 = 6
          · have hz' : ¬ fr (nI j).toNatClampNeg = 0 := by rw [zl_cl hj]; exact fun z => hf ⟨h6, z⟩
            refine br_t ((zl_c6 (zl_cnt_le fr 16)).mpr h6) ⟨zl_in hj, br_f hz' ?_⟩
            unfold wY_write_48
            refine pY _ ?_
            exact ⟨rfl, zl_rel h1⟩
          · refine br_f (fun z => h6 ((zl_c6 (zl_cnt_le fr 16)).mp z)) ?_
            unfold wY_write_48
            refine pY _ ?_
            exact ⟨rfl, zl_rel h1⟩
theorem i_vc_fill {k : Nat} {u : SX} {v : SY} (I : i_Rel k u v) (hk : k + 5 ≤ 2560) (v1 : Int32) (v2 : Int32) (v3 : Int32) (v4 : Int32) : wpX_fill (fun r u' => wpY_fill (fun r' v' => r' = r ∧ i_Rel (k + 5) u' v') v v1 v2 v3 v4) u v1 v2 v3 v4 := by
  obtain ⟨o, g, cu, du, fr, h01, rfl, rfl⟩ := I
  by_cases ho : o = 0
  · exact br_t ho (br_t ho ⟨rfl, zl_rel h01⟩)
  · by_cases c1 : v2 < 1
    · exact br_f ho (br_t c1 (br_f ho (br_t c1 ⟨rfl, zl_rel h01⟩)))
    · by_cases c2 : 16 < v2
      · exact br_f ho (br_f c1 (br_t c2 (br_f ho (br_f c1 (br_t c2 ⟨rfl, zl_rel h01⟩)))))
      · by_cases c3 : v1 < 0
        · exact br_f ho (br_f c1 (br_f c2 (br_t c3 (br_f ho (br_f c1 (br_f c2 (br_t c3 ⟨rfl, zl_rel h01⟩)))))))
        · by_cases c4 : v1 ≤ 16 - v2
          · by_cases hg : g = 0
            · subst hg
              have n0 : ¬ v2 < 0 := fun q => c1 (Int32.lt_trans q (by decide))
              obtain ⟨m, hm, em⟩ := nI_of n0
              obtain ⟨f, hf, ef⟩ := nI_of c3
              have m16 : m ≤ 16 := by
                rw [em, ← zl_n16, nI_ltI (by omega) hm] at c2
                omega
              have hfm : f + m ≤ 16 := by
                have q := c4
                rw [em, ef, ← zl_n16, zl_sub m16, nI_leI hf (by omega)] at q
                omega
              obtain ⟨cu1, du1, fr1, h1, pX, pY⟩ := zp_fill (o := o) (x := v3) (s := v4) hfm m 0 (Nat.zero_add m) cu du fr h01
              rw [nI_0, ← em, ← ef] at pX pY
              refine br_f ho (br_f c1 (br_f c2 (br_f c3 (br_t c4 (br_t zl_00 ⟨m + 1, pX _ ?_⟩)))))
              refine br_f ho (br_f c1 (br_f c2 (br_f c3 (br_t c4 (br_t zl_00 ⟨m + 1, pY _ ?_⟩)))))
              exact ⟨rfl, zl_rel h1⟩
            · exact br_f ho (br_f c1 (br_f c2 (br_f c3 (br_t c4 (br_f hg (br_f ho (br_f c1 (br_f c2 (br_f c3 (br_t c4 (br_f hg ⟨rfl, zl_rel h01⟩)))))))))))
          · exact br_f ho (br_f c1 (br_f c2 (br_f c3 (br_f c4 (br_f ho (br_f c1 (br_f c2 (br_f c3 (br_f c4 ⟨rfl, zl_rel h01⟩)))))))))
theorem i_vc_sync {k : Nat} {u : SX} {v : SY} (I : i_Rel k u v) (hk : k + 5 ≤ 2560) : wpX_sync (fun r u' => wpY_sync (fun r' v' => r' = r ∧ i_Rel (k + 5) u' v') v) u := by
  obtain ⟨o, g, cu, du, fr, h01, rfl, rfl⟩ := I
  by_cases ho : o = 0
  · exact br_t ho (br_t ho ⟨rfl, zl_rel h01⟩)
  · by_cases hg : g = 0
    · refine br_f ho (br_t hg ?_)
      refine zx_keep ?_
      dsimp only
      refine br_f ho (br_t hg ?_)
      refine zy_settle1 ?_
      exact ⟨rfl, zl_rel0 h01⟩
    · exact br_f ho (br_f hg (br_f ho (br_f hg ⟨rfl, zl_rel h01⟩)))
theorem i_vc_begin {k : Nat} {u : SX} {v : SY} (I : i_Rel k u v) (hk : k + 5 ≤ 2560) : wpX_begin (fun r u' => wpY_begin (fun r' v' => r' = r ∧ i_Rel (k + 5) u' v') v) u := by
  obtain ⟨o, g, cu, du, fr, h01, rfl, rfl⟩ := I
  by_cases ho : o = 0
  · exact br_t ho (br_t ho ⟨rfl, zl_rel h01⟩)
  · by_cases hg : g = 0
    · refine br_f ho (br_t hg ?_)
      refine zx_keep ?_
      dsimp only
      refine br_f ho (br_t hg ?_)
      refine zy_settle1 ?_
      exact ⟨rfl, zl_rel0 h01⟩
    · exact br_f ho (br_f hg (br_f ho (br_f hg ⟨rfl, zl_rel h01⟩)))
theorem i_vc_commit {k : Nat} {u : SX} {v : SY} (I : i_Rel k u v) (hk : k + 5 ≤ 2560) : wpX_commit (fun r u' => wpY_commit (fun r' v' => r' = r ∧ i_Rel (k + 5) u' v') v) u := by
  obtain ⟨o, g, cu, du, fr, h01, rfl, rfl⟩ := I
  by_cases ho : o = 0
  · exact br_t ho (br_t ho ⟨rfl, zl_rel h01⟩)
  · by_cases hg : g = 0
    · exact br_f ho (br_t hg (br_f ho (br_t hg ⟨rfl, zl_rel h01⟩)))
    · refine br_f ho (br_f hg ?_)
      refine zx_keep ?_
      dsimp only
      refine br_f ho (br_f hg ?_)
      refine zy_settle1 ?_
      exact ⟨rfl, zl_rel0 h01⟩
theorem i_vc_abort {k : Nat} {u : SX} {v : SY} (I : i_Rel k u v) (hk : k + 5 ≤ 2560) : wpX_abort (fun r u' => wpY_abort (fun r' v' => r' = r ∧ i_Rel (k + 5) u' v') v) u := by
  obtain ⟨o, g, cu, du, fr, h01, rfl, rfl⟩ := I
  by_cases ho : o = 0
  · exact br_t ho (br_t ho ⟨rfl, zl_rel h01⟩)
  · by_cases hg : g = 0
    · exact br_f ho (br_t hg (br_f ho (br_t hg ⟨rfl, zl_rel h01⟩)))
    · refine br_f ho (br_f hg ?_)
      refine zx_ret ?_
      dsimp only
      refine br_f ho (br_f hg ?_)
      refine zy_settle0 ?_
      exact ⟨rfl, zl_rel0 h01⟩
theorem i_vc_crash {k : Nat} {u : SX} {v : SY} (I : i_Rel k u v) (hk : k + 5 ≤ 2560) : wpX_crash (fun r u' => wpY_crash (fun r' v' => r' = r ∧ i_Rel (k + 5) u' v') v) u := by
  obtain ⟨o, g, cu, du, fr, h01, rfl, rfl⟩ := I
  by_cases ho : o = 0
  · exact br_t ho (br_t ho ⟨rfl, zl_rel h01⟩)
  · refine br_f ho ?_
    refine zx_lose ?_
    dsimp only
    refine br_f ho ?_
    refine zy_settle0 ?_
    exact ⟨rfl, zl_rel0 h01⟩
theorem i_vc_crashIn {k : Nat} {u : SX} {v : SY} (I : i_Rel k u v) (hk : k + 5 ≤ 2560) (v1 : Int32) : wpX_crashIn (fun r u' => wpY_crashIn (fun r' v' => r' = r ∧ i_Rel (k + 5) u' v') v v1) u v1 := by
  obtain ⟨o, g, cu, du, fr, h01, rfl, rfl⟩ := I
  by_cases ho : o = 0
  · exact br_t ho (br_t ho ⟨rfl, zl_rel h01⟩)
  · by_cases c1 : v1 < 0
    · exact br_f ho (br_t c1 (br_f ho (br_t c1 ⟨rfl, zl_rel h01⟩)))
    · by_cases c2 : v1 ≤ 3
      · by_cases c3 : v1 = 3
        · refine br_f ho (br_f c1 (br_t c2 (br_t c3 ?_)))
          refine zx_keep ?_
          dsimp only
          unfold wX_crashIn_31
          refine zx_lose2 ?_
          dsimp only
          refine br_f ho (br_f c1 (br_t c2 (br_t c3 ?_)))
          unfold wY_crashIn_32
          refine zy_settle1 ?_
          exact ⟨rfl, zl_rel0 h01⟩
        · refine br_f ho (br_f c1 (br_t c2 (br_f c3 ?_)))
          unfold wX_crashIn_31
          refine zx_lose ?_
          dsimp only
          refine br_f ho (br_f c1 (br_t c2 (br_f c3 ?_)))
          unfold wY_crashIn_32
          refine zy_settle0 ?_
          exact ⟨rfl, zl_rel0 h01⟩
      · exact br_f ho (br_f c1 (br_f c2 (br_f ho (br_f c1 (br_f c2 ⟨rfl, zl_rel h01⟩)))))
theorem i_vc_mount {k : Nat} {u : SX} {v : SY} (I : i_Rel k u v) (hk : k + 5 ≤ 2560) : wpX_mount (fun r u' => wpY_mount (fun r' v' => r' = r ∧ i_Rel (k + 5) u' v') v) u := by
  obtain ⟨o, g, cu, du, fr, h01, rfl, rfl⟩ := I
  by_cases ho : o = 0
  · exact br_t ho (br_t ho ⟨rfl, zl_rel h01⟩)
  · exact br_f ho (br_f ho ⟨rfl, zl_rel h01⟩)
theorem i_vc_unsynced {k : Nat} {u : SX} {v : SY} (I : i_Rel k u v) (hk : k + 5 ≤ 2560) : wpX_unsynced (fun r => wpY_unsynced (fun r' => r' = r ∧ i_Rel (k + 5) u v) v) u := by
  obtain ⟨o, g, cu, du, fr, h01, rfl, rfl⟩ := I
  unfold wpX_unsynced wpY_unsynced
  dsimp only
  refine zy_fresh ?_
  exact ⟨rfl, zl_rel h01⟩
theorem i_vc_grouped {k : Nat} {u : SX} {v : SY} (I : i_Rel k u v) (hk : k + 5 ≤ 2560) : wpX_grouped (fun r => wpY_grouped (fun r' => r' = r ∧ i_Rel (k + 5) u v) v) u := by
  obtain ⟨o, g, cu, du, fr, h01, rfl, rfl⟩ := I
  by_cases hg : g = 0
  · exact br_t hg (br_t hg ⟨rfl, zl_rel h01⟩)
  · exact br_f hg (br_f hg ⟨rfl, zl_rel h01⟩)
theorem i_vc_pending {k : Nat} {u : SX} {v : SY} (I : i_Rel k u v) (hk : k + 5 ≤ 2560) : wpX_pending (fun r => wpY_pending (fun r' => r' = r ∧ i_Rel (k + 5) u v) v) u := by
  obtain ⟨o, g, cu, du, fr, h01, rfl, rfl⟩ := I
  by_cases ho : o = 0
  · exact br_t ho (br_t ho ⟨rfl, zl_rel h01⟩)
  · refine br_f ho ⟨17, zx_pd ?_ 16 0 rfl⟩
    refine br_f ho ⟨17, zy_pd ?_ 16 0 rfl⟩
    exact ⟨rfl, zl_rel h01⟩
theorem i_vc_sum {k : Nat} {u : SX} {v : SY} (I : i_Rel k u v) (hk : k + 5 ≤ 2560) : wpX_sum (fun r => wpY_sum (fun r' => r' = r ∧ i_Rel (k + 5) u v) v) u := by
  obtain ⟨o, g, cu, du, fr, h01, rfl, rfl⟩ := I
  by_cases ho : o = 0
  · refine br_t ho ?_
    exact Exists.intro 17 (zy_sm (br_t ho ⟨rfl, zl_rel h01⟩) 16 0 rfl)
  · refine br_f ho ⟨17, zx_sm ?_ 16 0 rfl⟩
    exact Exists.intro 17 (zy_sm (br_f ho ⟨rfl, zl_rel h01⟩) 16 0 rfl)
theorem i_vc_clean {k : Nat} {u : SX} {v : SY} (I : i_Rel k u v) (hk : k + 5 ≤ 2560) : wpX_clean (fun r => wpY_clean (fun r' => r' = r ∧ i_Rel (k + 5) u v) v) u := by
  obtain ⟨o, g, cu, du, fr, h01, rfl, rfl⟩ := I
  by_cases ho : o = 0
  · exact br_t ho (br_t ho ⟨rfl, zl_rel h01⟩)
  · exact br_f ho (br_f ho ⟨rfl, zl_rel h01⟩)
theorem i_vc_check {k : Nat} {u : SX} {v : SY} (I : i_Rel k u v) (hk : k + 5 ≤ 2560) : wpX_check (fun r => wpY_check (fun r' => r' = r ∧ i_Rel (k + 5) u v) v) u := by
  obtain ⟨o, g, cu, du, fr, h01, rfl, rfl⟩ := I
  by_cases ho : o = 0
  · exact br_t ho (br_t ho ⟨rfl, zl_rel h01⟩)
  · exact br_f ho (br_f ho ⟨rfl, zl_rel h01⟩)
end
