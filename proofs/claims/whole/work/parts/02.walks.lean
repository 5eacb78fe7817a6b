/-! X's private methods -/
theorem zx_fg {post : Int32 → SX → Prop} {x c o g : Int32} {cu du fr : Nat → Int32} (h : post x (0, o, g, cu, du, zl_zr fr 16)) : ∀ d j : Nat, j + d = 16 → wX_forgetUnsynced_7 post x c o g (d + 1) (nI j) cu du (zl_zr fr j) := by
  intro d
  induction d with
  | zero =>
    intro j hj
    have e : j = 16 := by omega
    subst e
    exact br_t zl_t16 h
  | succ d ih =>
    intro j hj
    have hl : j < 16 := by omega
    exact br_f (zl_f16 hl) ⟨zl_in hl, nm_r (zl_zst hl) (nm_r (nI_1 j) (ih (j + 1) (by omega)))⟩
theorem zx_forget {post : Int32 → SX → Prop} {c o g : Int32} {cu du fr : Nat → Int32} (h : post c (0, o, g, cu, du, zl_zr fr 16)) : wpX_forgetUnsynced post (c, o, g, cu, du, fr) := by
  have q := zx_fg (post := post) (x := c) (c := c) h 16 0 rfl
  rw [nI_0, zl_zr_0] at q
  exact Exists.intro 17 q
theorem zx_kp {post : Int32 → SX → Prop} {c o g : Int32} {cu du fr : Nat → Int32} (h : post c (0, o, g, cu, zl_cp du cu 16, zl_zr fr 16)) : ∀ d j : Nat, j + d = 16 → wX_keepCurrent_2 post c o g (d + 1) (nI j) cu (zl_cp du cu j) fr := by
  intro d
  induction d with
  | zero =>
    intro j hj
    have e : j = 16 := by omega
    subst e
    exact br_t zl_t16 (zx_forget h)
  | succ d ih =>
    intro j hj
    have hl : j < 16 := by omega
    exact br_f (zl_f16 hl) ⟨zl_in hl, zl_in hl, nm_r (zl_cst hl) (nm_r (nI_1 j) (ih (j + 1) (by omega)))⟩
theorem zx_keep {post : Int32 → SX → Prop} {c o g : Int32} {cu du fr : Nat → Int32} (h : post c (0, o, g, cu, zl_cp du cu 16, zl_zr fr 16)) : wpX_keepCurrent post (c, o, g, cu, du, fr) := by
  have q := zx_kp (post := post) h 16 0 rfl
  rw [nI_0, zl_cp_0] at q
  exact Exists.intro 17 q
theorem zx_rt {post : Int32 → SX → Prop} {c o g : Int32} {cu du fr : Nat → Int32} (h : post c (0, o, g, zl_cp cu du 16, du, zl_zr fr 16)) : ∀ d j : Nat, j + d = 16 → wX_returnToDurable_2 post c o g (d + 1) (nI j) (zl_cp cu du j) du fr := by
  intro d
  induction d with
  | zero =>
    intro j hj
    have e : j = 16 := by omega
    subst e
    exact br_t zl_t16 (zx_forget h)
  | succ d ih =>
    intro j hj
    have hl : j < 16 := by omega
    exact br_f (zl_f16 hl) ⟨zl_in hl, zl_in hl, nm_r (zl_cst hl) (nm_r (nI_1 j) (ih (j + 1) (by omega)))⟩
theorem zx_ret {post : Int32 → SX → Prop} {c o g : Int32} {cu du fr : Nat → Int32} (h : post c (0, o, g, zl_cp cu du 16, du, zl_zr fr 16)) : wpX_returnToDurable post (c, o, g, cu, du, fr) := by
  have q := zx_rt (post := post) h 16 0 rfl
  rw [nI_0, zl_cp_0] at q
  exact Exists.intro 17 q
theorem zx_lose {post : Int32 → SX → Prop} {c o g : Int32} {cu du fr : Nat → Int32} (h : post c (0, 0, 0, zl_cp cu du 16, du, zl_zr fr 16)) : wpX_losePower post (c, o, g, cu, du, fr) := by
  unfold wpX_losePower
  dsimp only
  refine zx_ret ?_
  exact h
theorem zx_lose2 {post : Int32 → SX → Prop} {o g : Int32} {cu du fr : Nat → Int32} (h : post 0 (0, 0, 0, cu, zl_cp du cu 16, zl_zr fr 16)) : wpX_losePower post (0, o, g, cu, zl_cp du cu 16, zl_zr fr 16) := by
  refine zx_lose ?_
  rw [zl_cp_cp, zl_zr_zr]
  exact h
theorem zx_good_n {post : Int32 → Prop} {x : Int32} (hx : x < 0 ∨ 16 ≤ x) (h : post 0) : wpX_isGood post x := by
  by_cases h0 : x < 0
  · exact br_t h0 h
  · exact br_f h0 (br_t (hx.resolve_left h0) h)
theorem zx_good_y {post : Int32 → Prop} {j : Nat} (hj : j < 16) (h : post 1) : wpX_isGood post (nI j) :=
  br_f (nI_pos (by omega)) (br_f (zl_f16 hj) h)
theorem zx_room_y {post : Int32 → Prop} {o g : Int32} {cu du fr : Nat → Int32} {j : Nat} (hj : j < 16) (h6 : zl_cnt fr 16 = 6) (hz : fr j = 0) (h : post 1) : wpX_needsRoom post (nI (zl_cnt fr 16), o, g, cu, du, fr) (nI j) := by
  have hz' : fr (nI j).toNatClampNeg = 0 := by rw [zl_cl hj]; exact hz
  exact br_t ((zl_c6 (zl_cnt_le fr 16)).mpr h6) ⟨zl_in hj, br_t hz' h⟩
theorem zx_room_n {post : Int32 → Prop} {o g : Int32} {cu du fr : Nat → Int32} {j : Nat} (hj : j < 16) (hn : ¬ (zl_cnt fr 16 = 6 ∧ fr j = 0)) (h : post 0) : wpX_needsRoom post (nI (zl_cnt fr 16), o, g, cu, du, fr) (nI j) := by
  by_cases h6 : zl_cnt fr 16 = 6
  · have hz' : ¬ fr (nI j).toNatClampNeg = 0 := by rw [zl_cl hj]; exact fun z => hn ⟨h6, z⟩
    exact br_t ((zl_c6 (zl_cnt_le fr 16)).mpr h6) ⟨zl_in hj, br_f hz' h⟩
  · exact br_f (fun z => h6 ((zl_c6 (zl_cnt_le fr 16)).mp z)) h
theorem zx_put13 {post : SX → Prop} {o g x : Int32} {cu du fr : Nat → Int32} {j : Nat} (hj : j < 16) (h01 : zl_01 fr) (h : post (nI (zl_cnt (upd fr j 1) 16), o, g, upd cu j x, du, upd fr j 1)) : wX_put_13 post (nI j) x (nI (zl_cnt fr 16)) o g cu du fr := by
  have e1 : upd fr (nI j).toNatClampNeg (vp_nar .boolean 1) = upd fr j 1 := by rw [zl_cl hj, zl_b1]
  have e3 : upd cu (nI j).toNatClampNeg x = upd cu j x := by rw [zl_cl hj]
  by_cases z : fr j = 0
  · have z' : fr (nI j).toNatClampNeg = 0 := by rw [zl_cl hj]; exact z
    have e2 : nI (zl_cnt fr 16) + 1 = nI (zl_cnt (upd fr j 1) 16) := by rw [zl_cnt_set z 16 hj, nI_1]
    exact And.intro (zl_in hj) (br_t z' ⟨zl_in hj, nm_r e1 (nm_r e2 ⟨zl_in hj, nm_r e3 h⟩)⟩)
  · have z' : ¬ fr (nI j).toNatClampNeg = 0 := by rw [zl_cl hj]; exact z
    rw [zl_upd_same ((h01 j).resolve_left z)] at h
    exact And.intro (zl_in hj) (br_f z' ⟨zl_in hj, nm_r e3 h⟩)
/-! Y's private methods -/
theorem zy_fc {post : Int32 → Prop} {o g : Int32} {cu du fr : Nat → Int32} (h : post (nI (zl_cnt fr 16))) : ∀ d j : Nat, j + d = 16 → wY_freshCount_4 post o g cu du fr (d + 1) (nI (zl_cnt fr j)) (nI j) := by
  intro d
  induction d with
  | zero =>
    intro j hj
    have e : j = 16 := by omega
    subst e
    exact br_t zl_t16 h
  | succ d ih =>
    intro j hj
    have hl : j < 16 := by omega
    have q := ih (j + 1) (by omega)
    by_cases z : fr j = 0
    · have z' : fr (nI j).toNatClampNeg = 0 := by rw [zl_cl hl]; exact z
      rw [zl_cnt_t z] at q
      exact br_f (zl_f16 hl) ⟨zl_in hl, br_t z' (nm_r (nI_1 j) q)⟩
    · have z' : ¬ fr (nI j).toNatClampNeg = 0 := by rw [zl_cl hl]; exact z
      rw [zl_cnt_f z] at q
      exact br_f (zl_f16 hl) ⟨zl_in hl, br_f z' (nm_r (nI_1 _) (nm_r (nI_1 j) q))⟩
theorem zy_fresh {post : Int32 → Prop} {o g : Int32} {cu du fr : Nat → Int32} (h : post (nI (zl_cnt fr 16))) : wpY_freshCount post (o, g, cu, du, fr) := by
  have q := zy_fc (post := post) (o := o) (g := g) (cu := cu) (du := du) (fr := fr) h 16 0 rfl
  exact Exists.intro 17 q
theorem zy_st1 {post : Int32 → SY → Prop} {x o g : Int32} {cu du fr : Nat → Int32} (h : post x (o, g, cu, zl_cp du cu 16, zl_zr fr 16)) : ∀ d j : Nat, j + d = 16 → wY_settle_7 post 1 x o g (d + 1) (nI j) cu (zl_cp du cu j) (zl_zr fr j) := by
  intro d
  induction d with
  | zero =>
    intro j hj
    have e : j = 16 := by omega
    subst e
    exact br_t zl_t16 h
  | succ d ih =>
    intro j hj
    have hl : j < 16 := by omega
    exact br_f (zl_f16 hl) (br_f zl_10 ⟨zl_in hl, zl_in hl, nm_r (zl_cst hl) ⟨zl_in hl, nm_r (zl_zst hl) (nm_r (nI_1 j) (ih (j + 1) (by omega)))⟩⟩)
theorem zy_st0 {post : Int32 → SY → Prop} {x o g : Int32} {cu du fr : Nat → Int32} (h : post x (o, g, zl_cp cu du 16, du, zl_zr fr 16)) : ∀ d j : Nat, j + d = 16 → wY_settle_7 post 0 x o g (d + 1) (nI j) (zl_cp cu du j) du (zl_zr fr j) := by
  intro d
  induction d with
  | zero =>
    intro j hj
    have e : j = 16 := by omega
    subst e
    exact br_t zl_t16 h
  | succ d ih =>
    intro j hj
    have hl : j < 16 := by omega
    exact br_f (zl_f16 hl) (br_t zl_00 ⟨zl_in hl, zl_in hl, nm_r (zl_cst hl) ⟨zl_in hl, nm_r (zl_zst hl) (nm_r (nI_1 j) (ih (j + 1) (by omega)))⟩⟩)
theorem zy_settle1 {post : Int32 → SY → Prop} {o g : Int32} {cu du fr : Nat → Int32} (h : post (nI (zl_cnt fr 16)) (o, g, cu, zl_cp du cu 16, zl_zr fr 16)) : wpY_settle post (o, g, cu, du, fr) 1 := by
  have q := zy_st1 (post := post) h 16 0 rfl
  rw [nI_0, zl_cp_0, zl_zr_0] at q
  unfold wpY_settle
  dsimp only
  refine zy_fresh ?_
  exact Exists.intro 17 q
theorem zy_settle0 {post : Int32 → SY → Prop} {o g : Int32} {cu du fr : Nat → Int32} (h : post (nI (zl_cnt fr 16)) (o, g, zl_cp cu du 16, du, zl_zr fr 16)) : wpY_settle post (o, g, cu, du, fr) 0 := by
  have q := zy_st0 (post := post) h 16 0 rfl
  rw [nI_0, zl_cp_0, zl_zr_0] at q
  unfold wpY_settle
  dsimp only
  refine zy_fresh ?_
  exact Exists.intro 17 q
theorem zy_bad_n {post : Int32 → Prop} {o g : Int32} {cu du fr : Nat → Int32} {x : Int32} (hx : x < 0 ∨ 16 ≤ x) (h : post 1) : wpY_bad post (o, g, cu, du, fr) x := by
  by_cases h0 : x < 0
  · exact br_t h0 h
  · have h1 : ¬ x ≤ 15 := fun q => absurd (Int32.le_trans (hx.resolve_left h0) q) (by decide)
    exact br_f h0 (br_f h1 h)
theorem zy_bad_y {post : Int32 → Prop} {o g : Int32} {cu du fr : Nat → Int32} {j : Nat} (hj : j < 16) (h : post 0) : wpY_bad post (o, g, cu, du, fr) (nI j) := by
  have e : nI 15 = 15 := by decide +kernel
  have h1 : nI j ≤ 15 := by rw [← e]; exact nI_le (by omega) (by omega)
  exact br_f (nI_pos (by omega)) (br_t h1 h)
theorem zy_put31 {post : SY → Prop} {o g x : Int32} {cu du fr : Nat → Int32} {j : Nat} (hj : j < 16) (h : post (o, g, upd cu j x, du, upd fr j 1)) : wY_put_31 post (nI j) x o g cu du fr := by
  have e1 : upd fr (nI j).toNatClampNeg (vp_nar .boolean 1) = upd fr j 1 := by rw [zl_cl hj, zl_b1]
  have e3 : upd cu (nI j).toNatClampNeg x = upd cu j x := by rw [zl_cl hj]
  exact And.intro (zl_in hj) (nm_r e3 ⟨zl_in hj, nm_r e1 h⟩)
/-! both sides' put: one pair of states that both reach -/
theorem zp_put {o g x : Int32} {cu du fr : Nat → Int32} {j : Nat} (hj : j < 16) (h01 : zl_01 fr) (hg : g = 0 ∨ ¬ (zl_cnt fr 16 = 6 ∧ fr j = 0)) :
    ∃ cu' du' fr' : Nat → Int32, zl_01 fr' ∧ (∀ post : SX → Prop, post (nI (zl_cnt fr' 16), o, g, cu', du', fr') → wpX_put post (nI (zl_cnt fr 16), o, g, cu, du, fr) (nI j) x) ∧ (∀ post : SY → Prop, post (o, g, cu', du', fr') → wpY_put post (o, g, cu, du, fr) (nI j) x) := by
  by_cases hf : zl_cnt fr 16 = 6 ∧ fr j = 0
  · have g0 : g = 0 := hg.resolve_right (fun q => q hf)
    have hz' : fr (nI j).toNatClampNeg = 0 := by rw [zl_cl hj]; exact hf.2
    have h6 : nI (zl_cnt fr 16) = 6 := (zl_c6 (zl_cnt_le fr 16)).mpr hf.1
    refine ⟨upd cu j x, zl_cp du cu 16, upd (zl_zr fr 16) j 1, zl_01_upd (zl_01_zr h01), fun post h => ?_, fun post h => ?_⟩
    · unfold wpX_put
      dsimp only
      refine zx_room_y hj hf.1 hf.2 (br_f zl_10 ?_)
      refine zx_keep ?_
      have q := zx_put13 (post := post) (x := x) (cu := cu) hj (zl_01_zr (n := 16) h01) h
      rw [zl_cnt_zr fr 16 16 (Nat.le_refl 16), nI_0] at q
      exact q
    · refine br_t g0 ?_
      refine zy_fresh (br_t h6 ⟨zl_in hj, br_t hz' ?_⟩)
      refine zy_settle1 ?_
      exact zy_put31 hj h
  · refine ⟨upd cu j x, du, upd fr j 1, zl_01_upd h01, fun post h => ?_, fun post h => ?_⟩
    · unfold wpX_put
      dsimp only
      refine zx_room_n hj hf (br_t zl_00 ?_)
      exact zx_put13 hj h01 h
    · have q : wY_put_31 post (nI j) x o g cu du fr := zy_put31 hj h
      by_cases g0 : g = 0
      · refine br_t g0 (zy_fresh ?_)
        by_cases h6 : zl_cnt fr 16 = 6
        · have hz' : ¬ fr (nI j).toNatClampNeg = 0 := by rw [zl_cl hj]; exact fun z => hf ⟨h6, z⟩
          exact br_t ((zl_c6 (zl_cnt_le fr 16)).mpr h6) ⟨zl_in hj, br_f hz' q⟩
        · exact br_f (fun z => h6 ((zl_c6 (zl_cnt_le fr 16)).mp z)) q
      · exact br_f g0 q
