/-- both sides hold the same rules and the same text; X's sets and the reference's table are free -/
def i_Rel (k : Nat) (u : SX) (v : SY) : Prop :=
  ∃ (c n : Nat) (L R t : Nat → Nat) (al ar tx a bl br ty b : Nat → Int32),
    u = (nI c, nI n, al, ar, tx, a) ∧ v = (nI c, nI n, bl, br, ty, b) ∧ gr_G c L R ∧ gr_tx n t ∧
    (gr_A al L c ∧ gr_A ar R c ∧ gr_A tx t n) ∧ (gr_A bl L c ∧ gr_A br R c ∧ gr_A ty t n)
theorem gr_mk {k c n : Nat} {L R t : Nat → Nat} {al ar tx a bl br ty b : Nat → Int32} (hG : gr_G c L R) (ht : gr_tx n t)
    (hX : gr_A al L c ∧ gr_A ar R c ∧ gr_A tx t n) (hY : gr_A bl L c ∧ gr_A br R c ∧ gr_A ty t n) :
    i_Rel k (nI c, nI n, al, ar, tx, a) (nI c, nI n, bl, br, ty, b) :=
  ⟨c, n, L, R, t, al, ar, tx, a, bl, br, ty, b, rfl, rfl, hG, ht, hX, hY⟩
theorem i_up {k : Nat} {u : SX} {v : SY} (h : i_Rel k u v) : i_Rel (k + 4) u v := h
theorem i_vc0 : wpX_init (fun u => wpY_init (fun v => i_Rel 0 u v)) :=
  gr_mk (k := 0) (c := 0) (n := 0) (L := fun _ => 0) (R := fun _ => 0) (t := fun _ => 0)
    ⟨by omega, fun q hq => absurd hq (by omega)⟩ ⟨by omega, fun q hq => absurd hq (by omega)⟩
    ⟨fun q hq => absurd hq (by omega), fun q hq => absurd hq (by omega), fun q hq => absurd hq (by omega)⟩
    ⟨fun q hq => absurd hq (by omega), fun q hq => absurd hq (by omega), fun q hq => absurd hq (by omega)⟩
theorem gr_ng (x : Int32) : x < 0 ∨ ∃ j : Nat, j < 2 ^ 31 ∧ x = nI j := by
  by_cases h : x < 0
  · exact Or.inl h
  · exact Or.inr (nI_of h)
theorem gr_lt5 {x : Int32} (h : x < 0) : x < 5 := Int32.lt_trans h (by decide)
/-! names, signs, rules, stretches, right sides -/
theorem gr_x_name {post : Int32 → Prop} {s : Nat} (hs : s < 2 ^ 31) (h0 : 5 ≤ s → post 0) (h1 : s < 5 → post 1) : wpX_isName post (nI s) :=
  br_f (nI_pos hs) (pk_le 5 s h0 h1)
theorem gr_x_nameN {post : Int32 → Prop} {x : Int32} (h : x < 0) (h0 : post 0) : wpX_isName post x := br_t h h0
theorem gr_x_sign {post : Int32 → Prop} {s : Nat} (hs : s < 2 ^ 31) (h0 : 8 ≤ s → post 0) (h1 : s < 8 → post 1) : wpX_isSign post (nI s) :=
  br_f (nI_pos hs) (pk_le 8 s h0 h1)
theorem gr_x_signN {post : Int32 → Prop} {x : Int32} (h : x < 0) (h0 : post 0) : wpX_isSign post x := br_t h h0
theorem gr_y_bsign {post : Int32 → Prop} {u : SY} {s : Nat} (hs : s < 2 ^ 31) (h1 : 8 ≤ s → post 1) (h0 : s < 8 → post 0) :
    wpY_badSign post u (nI s) := by
  obtain ⟨cn, ln, bl, br, ty, b⟩ := u
  exact br_f (nI_pos hs) (pk_le s 7 (fun l => h0 (by omega)) (fun l => h1 (by omega)))
theorem gr_y_bsignN {post : Int32 → Prop} {u : SY} {x : Int32} (h : x < 0) (h1 : post 1) : wpY_badSign post u x := by
  obtain ⟨cn, ln, bl, br, ty, b⟩ := u
  exact br_t h h1
theorem gr_x_rule {post : Int32 → Prop} {al ar tx a : Nat → Int32} {tl : Int32} {c r : Nat} (hc : c ≤ 12) (hr : r < 2 ^ 31)
    (h0 : c ≤ r → post 0) (h1 : r < c → post 1) : wpX_isRule post (nI c, tl, al, ar, tx, a) (nI r) :=
  br_f (nI_pos hr) (pk_le c r h0 h1)
theorem gr_x_ruleN {post : Int32 → Prop} {u : SX} {x : Int32} (h : x < 0) (h0 : post 0) : wpX_isRule post u x := by
  obtain ⟨cn, ln, bl, br, ty, b⟩ := u
  exact br_t h h0
theorem gr_y_brule {post : Int32 → Prop} {bl br ty b : Nat → Int32} {ln : Int32} {c r : Nat} (hc : c ≤ 12) (hr : r < 2 ^ 31)
    (h1 : c ≤ r → post 1) (h0 : r < c → post 0) : wpY_badRule post (nI c, ln, bl, br, ty, b) (nI r) :=
  br_f (nI_pos hr) (pk_le c r h1 (fun l => pk_le r 11 (fun _ => h0 l) (fun z => absurd z (by omega))))
theorem gr_y_bruleN {post : Int32 → Prop} {u : SY} {x : Int32} (h : x < 0) (h1 : post 1) : wpY_badRule post u x := by
  obtain ⟨cn, ln, bl, br, ty, b⟩ := u
  exact br_t h h1
def gr_bad (n : Nat) (x y : Int32) : Prop := x < 0 ∨ y < x ∨ nI n < y
theorem gr_src {n : Nat} (hn : n ≤ 8) (x y : Int32) : gr_bad n x y ∨ ∃ i j, i ≤ j ∧ j ≤ n ∧ x = nI i ∧ y = nI j := by
  by_cases h1 : x < 0
  · exact Or.inl (Or.inl h1)
  · by_cases h2 : y < x
    · exact Or.inl (Or.inr (Or.inl h2))
    · by_cases h3 : nI n < y
      · exact Or.inl (Or.inr (Or.inr h3))
      · have h4 : ¬ y < 0 := by
          rw [Int32.lt_iff_toInt_lt] at h1 h2 ⊢
          omega
        obtain ⟨i, hi, rfl⟩ := nI_of h1
        obtain ⟨j, hj, rfl⟩ := nI_of h4
        rw [nI_ltI hj hi] at h2
        rw [nI_ltI (by omega) hj] at h3
        exact Or.inr ⟨i, j, by omega, by omega, rfl, rfl⟩
theorem gr_x_str1 {post : Int32 → Prop} {al ar tx a : Nat → Int32} {rc : Int32} {n i j : Nat} (hn : n ≤ 8) (hij : i ≤ j) (hj : j ≤ n)
    (h : post 1) : wpX_isStretch post (rc, nI n, al, ar, tx, a) (nI i) (nI j) :=
  br_f (nI_pos (by omega)) (br_f (nI_nlt hij (by omega)) (br_f (nI_nlt hj (by omega)) h))
theorem gr_x_str0 {post : Int32 → Prop} {al ar tx a : Nat → Int32} {rc x y : Int32} {n : Nat} (hb : gr_bad n x y)
    (h : post 0) : wpX_isStretch post (rc, nI n, al, ar, tx, a) x y :=
  br_c (fun _ => h) (fun h1 => br_c (fun _ => h) (fun h2 => br_c (fun _ => h) (fun h3 => by
    rcases hb with b | b | b
    · exact absurd b h1
    · exact absurd b h2
    · exact absurd b h3)))
theorem gr_y_str1 {post : Int32 → Prop} {bl br ty b : Nat → Int32} {cn : Int32} {n i j : Nat} (hn : n ≤ 8) (hij : i ≤ j) (hj : j ≤ n)
    (h : post 0) : wpY_badStretch post (cn, nI n, bl, br, ty, b) (nI i) (nI j) :=
  br_f (nI_pos (by omega)) (br_f (nI_nlt hij (by omega)) (br_t (nI_le hj (by omega)) h))
theorem gr_y_str0 {post : Int32 → Prop} {bl br ty b : Nat → Int32} {cn x y : Int32} {n : Nat} (hb : gr_bad n x y)
    (h : post 1) : wpY_badStretch post (cn, nI n, bl, br, ty, b) x y :=
  br_c (fun _ => h) (fun h1 => br_c (fun _ => h) (fun h2 => br_c (fun h3 => by
    rcases hb with b | b | b
    · exact absurd b h1
    · exact absurd b h2
    · exact absurd b (Int32.not_lt.mpr h3)) (fun _ => h)))
theorem gr_x_r28 {post : Int32 → Prop} {r : Nat} (hr : r < 729) (h9 : 9 ≤ r → r % 9 ≠ 0) (h1 : gr_gd r → post 1) (h0 : ¬ gr_gd r → post 0) :
    wX_isRightSide_28 post (nI r) := by
  unfold wX_isRightSide_28
  rw [gr_dm9 hr]
  refine pk_lt r 81 (fun l => h1 ⟨hr, h9, fun z => absurd z (by omega)⟩) (fun l => ⟨by decide, by decide, ?_⟩)
  exact pk_eq (r / 9 % 9) 0 (fun e => h0 (fun g => g.2.2 l e)) (fun e => h1 ⟨hr, h9, fun _ => e⟩)
theorem gr_x_right {post : Int32 → Prop} {r : Nat} (hr : r < 2 ^ 31) (h1 : gr_gd r → post 1) (h0 : ¬ gr_gd r → post 0) :
    wpX_isRightSide post (nI r) := by
  unfold wpX_isRightSide
  refine br_f (nI_pos hr) (pk_lt r 729 (fun l => ?_) (fun l => h0 (fun g => absurd g.1 (by omega))))
  rw [gr_m9 l]
  refine pk_lt r 9 (fun l9 => gr_x_r28 l (fun z => absurd z (by omega)) h1 h0) (fun l9 => ⟨by decide, ?_⟩)
  exact pk_eq (r % 9) 0 (fun e => h0 (fun g => g.2.1 l9 e)) (fun e => gr_x_r28 l (fun _ => e) h1 h0)
theorem gr_x_rightN {post : Int32 → Prop} {x : Int32} (h : x < 0) (h0 : post 0) : wpX_isRightSide post x := br_t h h0
theorem gr_y_b42 {post : Int32 → Prop} {cn ln : Int32} {bl br ty b : Nat → Int32} {r : Nat} (hr : r < 729) (h : post 0) :
    wY_badRow_42 post (nI r) cn ln bl br ty b := by
  unfold wY_badRow_42
  rw [gr_d81 hr]
  exact pk_le r 80 (fun _ => h) (fun l => ⟨by decide, pk_eq (r / 81) 0 (fun e => absurd e (by omega)) (fun _ => h)⟩)
theorem gr_y_bad {post : Int32 → Prop} {cn ln : Int32} {bl br ty b : Nat → Int32} {r : Nat} (hr : r < 2 ^ 31) (h0 : gr_gd r → post 0)
    (h1 : ¬ gr_gd r → post 1) : wpY_badRow post (cn, ln, bl, br, ty, b) (nI r) := by
  unfold wpY_badRow
  dsimp only
  refine br_f (nI_pos hr) (pk_le r 728 (fun l => ?_) (fun l => h1 (fun g => absurd g.1 (by omega))))
  have hr' : r < 729 := by omega
  rw [gr_m9 hr', gr_dm9 hr']
  refine pk_eq r 0 (fun e => h0 ⟨hr', fun z => absurd z (by omega), fun z => absurd z (by omega)⟩) (fun e => ⟨by decide, ?_⟩)
  refine pk_eq (r % 9) 0 (fun e9 => h1 (fun g => g.2.1 (by omega) e9)) (fun e9 => ?_)
  refine pk_le r 8 (fun l8 => gr_y_b42 hr' (h0 ⟨hr', fun _ => e9, fun z => absurd z (by omega)⟩)) (fun l8 => ⟨by decide, by decide, ?_⟩)
  exact pk_eq (r / 9 % 9) 0 (fun e99 => h1 (fun g => g.2.2 (by omega) e99))
    (fun e99 => gr_y_b42 hr' (h0 ⟨hr', fun _ => e9, fun _ => e99⟩))
theorem gr_y_badN {post : Int32 → Prop} {u : SY} {x : Int32} (h : x < 0) (h1 : post 1) : wpY_badRow post u x := by
  obtain ⟨cn, ln, bl, br, ty, b⟩ := u
  exact br_t h h1
/-! rule -/
theorem gr_x_rput {post : Int32 → SX → Prop} {tl : Int32} {al ar tx a : Nat → Int32} {c s r : Nat} (hc : c ≤ 12) (hs : s < 5) (hr : gr_gd r)
    (h : c < 12 → post (nI (c + 1) - 1) (nI (c + 1), tl, upd al c (nI s), upd ar c (nI r), tx, a))
    (h3 : 12 ≤ c → post (-3) (nI c, tl, al, ar, tx, a)) : wpX_rule post (nI c, tl, al, ar, tx, a) (nI s) (nI r) := by
  have hr' := hr.1
  unfold wpX_rule
  dsimp only
  refine gr_x_name (by omega) (fun z => absurd z (by omega)) (fun _ => br_f (by decide) ?_)
  refine gr_x_right (by omega) (fun _ => br_f (by decide) ?_) (fun z => absurd hr z)
  rw [nI_clamp (n := c) (by omega)]
  exact pk_lt c 12 (fun l => ⟨vp_in_nI l (by decide), nm_e ⟨vp_in_nI l (by decide), nm_e (nm_r (nI_1 c) (h l))⟩⟩) h3
theorem gr_y_rput {post : Int32 → SY → Prop} {ln : Int32} {bl br ty b : Nat → Int32} {c s r : Nat} (hc : c ≤ 12) (hs : s < 5) (hr : gr_gd r)
    (h : c < 12 → post (nI c) (nI (c + 1), ln, upd bl c (nI s), upd br c (nI r), ty, b))
    (h3 : 12 ≤ c → post (-3) (nI c, ln, bl, br, ty, b)) : wpY_rule post (nI c, ln, bl, br, ty, b) (nI s) (nI r) := by
  have hr' := hr.1
  unfold wpY_rule
  dsimp only
  refine br_f (nI_pos (by omega)) (pk_le s 4 (fun _ => ?_) (fun z => absurd z (by omega)))
  refine gr_y_bad (by omega) (fun _ => br_t rfl ?_) (fun z => absurd hr z)
  rw [nI_clamp (n := c) (by omega)]
  exact pk_le c 11 (fun l => ⟨vp_in_nI (by omega) (by decide), nm_e ⟨vp_in_nI (by omega) (by decide), nm_e (nm_r (nI_1 c) (h (by omega)))⟩⟩)
    (fun l => h3 (by omega))
theorem i_vc_rule {k : Nat} {u : SX} {v : SY} (I : i_Rel k u v) (hk : k + 4 ≤ 2048) (v1 : Int32) (v2 : Int32) : wpX_rule (fun r u' => wpY_rule (fun r' v' => r' = r ∧ i_Rel (k + 4) u' v') v v1 v2) u v1 v2 := by
  obtain ⟨c, n, L, R, t, al, ar, tx, a, bl, br, ty, b, rfl, rfl, hG, ht, hX, hY⟩ := I
  have hc := hG.1
  have M : i_Rel (k + 4) (nI c, nI n, al, ar, tx, a) (nI c, nI n, bl, br, ty, b) := gr_mk hG ht hX hY
  rcases gr_ng v1 with h | ⟨s, hs, rfl⟩
  · unfold wpX_rule wpY_rule
    dsimp only
    exact gr_x_nameN h (br_t rfl (br_t h ⟨rfl, M⟩))
  · by_cases h5 : s < 5
    · rcases gr_ng v2 with h | ⟨r, hr, rfl⟩
      · unfold wpX_rule wpY_rule
        dsimp only
        refine gr_x_name hs (fun z => absurd z (by omega)) (fun _ => br_f (by decide) ?_)
        refine gr_x_rightN h (br_t rfl ?_)
        exact br_f (nI_pos hs) (pk_le s 4 (fun _ => gr_y_badN h (br_f (by decide) ⟨rfl, M⟩)) (fun z => absurd z (by omega)))
      · by_cases hg : gr_gd r
        · refine gr_x_rput hc h5 hg (fun l => ?_) (fun l => ?_)
          · refine gr_y_rput hc h5 hg (fun _ => ⟨(nI_pred c).symm, ?_⟩) (fun z => absurd z (by omega))
            exact gr_mk (gr_G_up hG l h5 hg) ht ⟨gr_A_up hX.1, gr_A_up hX.2.1, hX.2.2⟩ ⟨gr_A_up hY.1, gr_A_up hY.2.1, hY.2.2⟩
          · exact gr_y_rput hc h5 hg (fun z => absurd z (by omega)) (fun _ => ⟨rfl, M⟩)
        · unfold wpX_rule wpY_rule
          dsimp only
          refine gr_x_name hs (fun z => absurd z (by omega)) (fun _ => br_f (by decide) ?_)
          refine gr_x_right hr (fun z => absurd z hg) (fun _ => br_t rfl ?_)
          exact br_f (nI_pos hs) (pk_le s 4 (fun _ => gr_y_bad hr (fun z => absurd z hg) (fun _ => br_f (by decide) ⟨rfl, M⟩)) (fun z => absurd z (by omega)))
    · unfold wpX_rule wpY_rule
      dsimp only
      refine gr_x_name hs (fun _ => br_t rfl ?_) (fun z => absurd z h5)
      exact br_f (nI_pos hs) (pk_le s 4 (fun z => absurd z (by omega)) (fun _ => ⟨rfl, M⟩))
/-! drop -/
theorem gr_x_drop {post : Int32 → SX → Prop} {tl : Int32} {al ar tx a : Nat → Int32} {c r0 : Nat} (hc : c ≤ 12) (hr : r0 < c)
    (h : post (nI (c - 1)) (nI (c - 1), tl, gr_sh al r0 (c - 1), gr_sh ar r0 (c - 1), tx, a)) :
    ∃ m, wX_drop_12 post (nI c) tl m (nI r0) al ar tx a := by
  suffices h0 : ∃ m, wX_drop_12 post (nI c) tl m (nI r0) (gr_sh al r0 r0) (gr_sh ar r0 r0) tx a by
    rw [gr_sh_0, gr_sh_0] at h0
    exact h0
  have ec : nI c - 1 = nI (c - 1) := gr_p1 (by omega)
  refine pk_loop (fun m r (_ : Unit) => wX_drop_12 post (nI c) tl m (nI r) (gr_sh al r0 r) (gr_sh ar r0 r) tx a) (fun r _ => r0 ≤ r) (c - 1) r0 ()
    (by omega) (Nat.le_refl r0) ?_ ?_
  · intro m _ _
    exact br_t (by rw [ec]; exact nI_le (Nat.le_refl _) (by omega)) (nm_r ec h)
  · intro m r _ hi hs k
    refine br_f (by rw [ec]; exact nI_ge hi (by omega)) ?_
    rw [nI_1 r, nI_clamp (n := r + 1) (by omega), nI_clamp (n := r) (by omega)]
    refine ⟨vp_in_nI (by omega) (by decide), vp_in_nI (by omega) (by decide), nm_r (gr_sh_s al hs) ?_⟩
    refine ⟨vp_in_nI (by omega) (by decide), vp_in_nI (by omega) (by decide), nm_r (gr_sh_s ar hs) (nm_e ?_)⟩
    exact k () (by omega)
theorem gr_y_drop {post : Int32 → SY → Prop} {tl : Int32} {al ar tx a : Nat → Int32} {c r0 : Nat} (hc : c ≤ 12) (hr : r0 < c)
    (h : post (nI (c - 1)) (nI (c - 1), tl, gr_sh al r0 (c - 1), gr_sh ar r0 (c - 1), tx, a)) :
    ∃ m, wY_drop_12 post (nI c) tl m (nI r0) al ar tx a := by
  suffices h0 : ∃ m, wY_drop_12 post (nI c) tl m (nI r0) (gr_sh al r0 r0) (gr_sh ar r0 r0) tx a by
    rw [gr_sh_0, gr_sh_0] at h0
    exact h0
  have ec : nI c - 1 = nI (c - 1) := gr_p1 (by omega)
  refine pk_loop (fun m r (_ : Unit) => wY_drop_12 post (nI c) tl m (nI r) (gr_sh al r0 r) (gr_sh ar r0 r) tx a) (fun r _ => r0 ≤ r) (c - 1) r0 ()
    (by omega) (Nat.le_refl r0) ?_ ?_
  · intro m _ _
    exact br_t (by rw [ec]; exact nI_le (Nat.le_refl _) (by omega)) (nm_r ec h)
  · intro m r _ hi hs k
    refine br_f (by rw [ec]; exact nI_ge hi (by omega)) (br_f (nI_ge (b := 11) (by omega) (by decide)) ?_)
    rw [nI_1 r, nI_clamp (n := r + 1) (by omega), nI_clamp (n := r) (by omega)]
    refine ⟨vp_in_nI (by omega) (by decide), vp_in_nI (by omega) (by decide), nm_r (gr_sh_s al hs) ?_⟩
    refine ⟨vp_in_nI (by omega) (by decide), vp_in_nI (by omega) (by decide), nm_r (gr_sh_s ar hs) (nm_e ?_)⟩
    exact k () (by omega)
theorem i_vc_drop {k : Nat} {u : SX} {v : SY} (I : i_Rel k u v) (hk : k + 4 ≤ 2048) (v1 : Int32) : wpX_drop (fun r u' => wpY_drop (fun r' v' => r' = r ∧ i_Rel (k + 4) u' v') v v1) u v1 := by
  obtain ⟨c, n, L, R, t, al, ar, tx, a, bl, br, ty, b, rfl, rfl, hG, ht, hX, hY⟩ := I
  have hc := hG.1
  have M : i_Rel (k + 4) (nI c, nI n, al, ar, tx, a) (nI c, nI n, bl, br, ty, b) := gr_mk hG ht hX hY
  unfold wpX_drop
  dsimp only
  rcases gr_ng v1 with h | ⟨s, hs, rfl⟩
  · refine gr_x_ruleN h (br_t rfl ?_)
    unfold wpY_drop
    dsimp only
    exact gr_y_bruleN h (br_f (by decide) ⟨rfl, M⟩)
  · refine gr_x_rule hc hs (fun l => br_t rfl ?_) (fun l => br_f (by decide) ?_)
    · unfold wpY_drop
      dsimp only
      exact gr_y_brule hc hs (fun _ => br_f (by decide) ⟨rfl, M⟩) (fun z => absurd z (by omega))
    · refine gr_x_drop hc l ?_
      unfold wpY_drop
      dsimp only
      refine gr_y_brule hc hs (fun z => absurd z (by omega)) (fun _ => br_t rfl ?_)
      refine gr_y_drop hc l ⟨rfl, ?_⟩
      exact gr_mk (gr_G_dn hG l) ht ⟨gr_A_sh hX.1 l, gr_A_sh hX.2.1 l, hX.2.2⟩ ⟨gr_A_sh hY.1 l, gr_A_sh hY.2.1 l, hY.2.2⟩
/-! clear, rules, length -/
theorem i_vc_clear {k : Nat} {u : SX} {v : SY} (I : i_Rel k u v) (hk : k + 4 ≤ 2048) : wpX_clear (fun r u' => wpY_clear (fun r' v' => r' = r ∧ i_Rel (k + 4) u' v') v) u := by
  obtain ⟨c, n, L, R, t, al, ar, tx, a, bl, br, ty, b, rfl, rfl, hG, ht, hX, hY⟩ := I
  refine ⟨rfl, ?_⟩
  exact gr_mk (c := 0) (L := L) (R := R) ⟨by omega, fun q hq => absurd hq (by omega)⟩ ht
    ⟨gr_A_le hX.1 (by omega), gr_A_le hX.2.1 (by omega), hX.2.2⟩ ⟨gr_A_le hY.1 (by omega), gr_A_le hY.2.1 (by omega), hY.2.2⟩
theorem i_vc_rules {k : Nat} {u : SX} {v : SY} (I : i_Rel k u v) (hk : k + 4 ≤ 2048) : wpX_rules (fun r => wpY_rules (fun r' => r' = r ∧ i_Rel (k + 4) u v) v) u := by
  obtain ⟨c, n, L, R, t, al, ar, tx, a, bl, br, ty, b, rfl, rfl, hG, ht, hX, hY⟩ := I
  exact ⟨rfl, gr_mk hG ht hX hY⟩
theorem i_vc_length {k : Nat} {u : SX} {v : SY} (I : i_Rel k u v) (hk : k + 4 ≤ 2048) : wpX_length (fun r => wpY_length (fun r' => r' = r ∧ i_Rel (k + 4) u v) v) u := by
  obtain ⟨c, n, L, R, t, al, ar, tx, a, bl, br, ty, b, rfl, rfl, hG, ht, hX, hY⟩ := I
  exact ⟨rfl, gr_mk hG ht hX hY⟩
/-! push, pop -/
theorem i_vc_push {k : Nat} {u : SX} {v : SY} (I : i_Rel k u v) (hk : k + 4 ≤ 2048) (v1 : Int32) : wpX_push (fun r u' => wpY_push (fun r' v' => r' = r ∧ i_Rel (k + 4) u' v') v v1) u v1 := by
  obtain ⟨c, n, L, R, t, al, ar, tx, a, bl, br, ty, b, rfl, rfl, hG, ht, hX, hY⟩ := I
  have hn := ht.1
  have M : i_Rel (k + 4) (nI c, nI n, al, ar, tx, a) (nI c, nI n, bl, br, ty, b) := gr_mk hG ht hX hY
  unfold wpX_push wpY_push
  dsimp only
  rcases gr_ng v1 with h | ⟨s, hs, rfl⟩
  · exact br_t (gr_lt5 h) (br_t (gr_lt5 h) ⟨rfl, M⟩)
  · rw [nI_clamp (n := n) (by omega)]
    refine pk_lt s 5 (fun l => pk_lt s 5 (fun _ => ⟨rfl, M⟩) (fun z => absurd z (by omega))) (fun l5 => ?_)
    refine pk_lt s 8 (fun l8 => ?_) (fun l => ?_)
    · refine pk_lt n 8 (fun ln => ⟨vp_in_nI ln (by decide), nm_e (nm_r (nI_1 n) ?_)⟩) (fun ln => ?_)
      · refine pk_lt s 5 (fun z => absurd z (by omega)) (fun _ => pk_le s 7 (fun _ => ?_) (fun z => absurd z (by omega)))
        refine pk_le n 7 (fun _ => ⟨vp_in_nI ln (by decide), nm_e (nm_r (nI_1 n) ⟨rfl, ?_⟩)⟩) (fun z => absurd z (by omega))
        exact gr_mk hG (gr_tx_up ht ln l5 (by omega)) ⟨hX.1, hX.2.1, gr_A_up hX.2.2⟩ ⟨hY.1, hY.2.1, gr_A_up hY.2.2⟩
      · refine pk_lt s 5 (fun z => absurd z (by omega)) (fun _ => pk_le s 7 (fun _ => ?_) (fun z => absurd z (by omega)))
        exact pk_le n 7 (fun z => absurd z (by omega)) (fun _ => ⟨rfl, M⟩)
    · exact pk_lt s 5 (fun z => absurd z (by omega)) (fun _ => pk_le s 7 (fun z => absurd z (by omega)) (fun _ => ⟨rfl, M⟩))
theorem i_vc_pop {k : Nat} {u : SX} {v : SY} (I : i_Rel k u v) (hk : k + 4 ≤ 2048) : wpX_pop (fun r u' => wpY_pop (fun r' v' => r' = r ∧ i_Rel (k + 4) u' v') v) u := by
  obtain ⟨c, n, L, R, t, al, ar, tx, a, bl, br, ty, b, rfl, rfl, hG, ht, hX, hY⟩ := I
  have hn := ht.1
  have M : i_Rel (k + 4) (nI c, nI n, al, ar, tx, a) (nI c, nI n, bl, br, ty, b) := gr_mk hG ht hX hY
  unfold wpX_pop wpY_pop
  dsimp only
  refine pk_lt 0 n (fun l => nm_r (gr_p1 l) ?_) (fun l => ?_)
  · rw [nI_clamp (n := n - 1) (by omega)]
    refine ⟨vp_in_nI (by omega) (by decide), pk_eq n 0 (fun z => absurd z (by omega)) (fun _ => nm_r (gr_p1 l) ?_)⟩
    rw [nI_clamp (n := n - 1) (by omega)]
    refine ⟨vp_in_nI (by omega) (by decide), ?_, ?_⟩
    · rw [hX.2.2 (n - 1) (by omega), hY.2.2 (n - 1) (by omega)]
    · exact gr_mk hG ⟨by omega, fun i hi => ht.2 i (by omega)⟩ ⟨hX.1, hX.2.1, gr_A_le hX.2.2 (by omega)⟩ ⟨hY.1, hY.2.1, gr_A_le hY.2.2 (by omega)⟩
  · exact pk_eq n 0 (fun _ => ⟨rfl, M⟩) (fun z => absurd z (by omega))
