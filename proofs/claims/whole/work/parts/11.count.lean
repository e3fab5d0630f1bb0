/-! a value carried over j, j + 1, .. -/
def gr_fd (g : Nat → Int32 → Int32) : Nat → Nat → Int32 → Int32
  | _, 0, x => x
  | j, d + 1, x => gr_fd g (j + 1) d (g j x)
/-! stretches -/
def gr_gs (B : Nat → Nat → Bool) (i j : Nat) (x : Int32) : Int32 := x + gr_vb (B i j)
theorem gr_x_st1 {post : Int32 → SX → Prop} {J : Int32 → Int32 → Prop} {a al ar tx : Nat → Int32} {c : Nat} {L R : Nat → Nat} {n : Nat} {t : Nat → Nat} {rc : Int32}
    (hn : n ≤ 8) (hS : gr_XS c L R n t a) {s i : Nat} (hs : s < 8) (hi : i ≤ n) : ∀ d j x, j + d = n + 1 →
    J (gr_fd (gr_gs (gr_B c L R n t s) i) j d x) (nI (i + 1)) → wX_stretches_28 post J (nI s) (nI i) rc (nI n) al ar tx a (d + 1) x (nI j) := by
  intro d
  induction d with
  | zero =>
    intro j x hj h
    exact br_t (nI_lt (by omega) (by omega)) (nm_r (nI_1 i) h)
  | succ d ih =>
    intro j x hj h
    refine br_f (nI_nlt (by omega) (by omega)) ?_
    rw [gr_i9 s i, nI_clamp (n := 9 * s + i) (by omega)]
    refine ⟨vp_in_nI (by omega) (by decide), gr_x_bit (by omega) ?_⟩
    rw [hS s hs i (by omega) j]
    exact nm_e (nm_r (nI_1 j) (ih (j + 1) _ (by omega) h))
theorem gr_y_st1 {post : Int32 → SY → Prop} {J : Int32 → Int32 → Prop} {b bl br ty : Nat → Int32} {c : Nat} {L R : Nat → Nat} {n : Nat} {t : Nat → Nat} {cn : Int32}
    (ht : gr_tx n t) (hy : gr_A ty t n) (hb : gr_YS c L R n t b) {s i : Nat} (hs : s < 8) (hi : i ≤ n) : ∀ d j x, i ≤ j → j + d = n + 1 →
    J (gr_fd (gr_gs (gr_B c L R n t s) i) j d x) (nI (i + 1)) → wY_stretches_29 post J (nI s) (nI i) cn (nI n) bl br ty b (d + 1) x (nI j) := by
  have hn := ht.1
  intro d
  induction d with
  | zero =>
    intro j x _ hj h
    exact br_t (nI_lt (by omega) (by omega)) (nm_r (nI_1 i) h)
  | succ d ih =>
    intro j x ij hj h
    refine br_f (nI_nlt (by omega) (by omega)) ?_
    refine gr_y_signS ht hy hb hs ij (by omega) ?_
    have h2 : J (gr_fd (gr_gs (gr_B c L R n t s) i) (j + 1) d (x + gr_vb (gr_B c L R n t s i j))) (nI (i + 1)) := h
    by_cases e : gr_B c L R n t s i j = true
    · rw [e] at h2 ⊢
      exact br_f (by decide) (nm_e (nm_r (nI_1 j) (ih (j + 1) _ (by omega) (by omega) h2)))
    · rw [gr_nt e] at h2 ⊢
      have z : x + gr_vb false = x := Int32.add_zero x
      rw [z] at h2
      exact br_t (by decide) (nm_r (nI_1 j) (ih (j + 1) _ (by omega) (by omega) h2))
def gr_go (g : Nat → Nat → Int32 → Int32) (n : Nat) (i : Nat) (x : Int32) : Int32 := gr_fd (g i) i (n + 1 - i) x
theorem gr_x_st {post : Int32 → SX → Prop} {a al ar tx : Nat → Int32} {c : Nat} {L R : Nat → Nat} {n : Nat} {t : Nat → Nat} {rc : Int32}
    (hn : n ≤ 8) (hS : gr_XS c L R n t a) {s : Nat} (hs : s < 8) : ∀ d i x, i + d = n + 1 →
    post (gr_fd (gr_go (gr_gs (gr_B c L R n t s)) n) i d x) (rc, nI n, al, ar, tx, a) → wX_stretches_17 post (nI s) rc (nI n) al ar tx a (d + 1) x (nI i) := by
  intro d
  induction d with
  | zero =>
    intro i x hi h
    exact br_t (nI_lt (by omega) (by omega)) h
  | succ d ih =>
    intro i x hi h
    exact br_f (nI_nlt (by omega) (by omega)) ⟨_, gr_x_st1 hn hS hs (by omega) (n + 1 - i) i x (by omega) (ih (i + 1) _ (by omega) h)⟩
theorem gr_y_st {post : Int32 → SY → Prop} {b bl br ty : Nat → Int32} {c : Nat} {L R : Nat → Nat} {n : Nat} {t : Nat → Nat} {cn : Int32}
    (ht : gr_tx n t) (hy : gr_A ty t n) (hb : gr_YS c L R n t b) {s : Nat} (hs : s < 8) : ∀ d i x, i + d = n + 1 →
    post (gr_fd (gr_go (gr_gs (gr_B c L R n t s)) n) i d x) (cn, nI n, bl, br, ty, b) → wY_stretches_18 post (nI s) cn (nI n) bl br ty b (d + 1) x (nI i) := by
  have hn := ht.1
  intro d
  induction d with
  | zero =>
    intro i x hi h
    exact br_t (nI_lt (by omega) (by omega)) h
  | succ d ih =>
    intro i x hi h
    exact br_f (nI_nlt (by omega) (by omega)) ⟨_, gr_y_st1 ht hy hb hs (by omega) (n + 1 - i) i x (by omega) (by omega) (ih (i + 1) _ (by omega) h)⟩
theorem i_vc_stretches {k : Nat} {u : SX} {v : SY} (I : i_Rel k u v) (hk : k + 4 ≤ 2048) (v1 : Int32) : wpX_stretches (fun r u' => wpY_stretches (fun r' v' => r' = r ∧ i_Rel (k + 4) u' v') v v1) u v1 := by
  obtain ⟨c, n, L, R, t, al, ar, tx, a, bl, br, ty, b, rfl, rfl, hG, ht, hX, hY⟩ := I
  have hn := ht.1
  have M : i_Rel (k + 4) (nI c, nI n, al, ar, tx, a) (nI c, nI n, bl, br, ty, b) := gr_mk hG ht hX hY
  unfold wpX_stretches wpY_stretches
  dsimp only
  rcases gr_ng v1 with h | ⟨s, hs, rfl⟩
  · exact gr_x_signN h (br_t rfl (gr_y_bsignN h (br_f (by decide) ⟨rfl, M⟩)))
  · refine gr_x_sign hs (fun l => br_t rfl ?_) (fun l => br_f (by decide) ?_)
    · exact gr_y_bsign hs (fun _ => br_f (by decide) ⟨rfl, M⟩) (fun z => absurd z (by omega))
    · refine gr_x_find hG ht hX.1 hX.2.1 hX.2.2 (fun a' hS => ?_)
      dsimp only
      refine ⟨_, gr_x_st hn hS l (n + 1) 0 0 (by omega) ?_⟩
      refine gr_y_bsign hs (fun z => absurd z (by omega)) (fun _ => br_t rfl ?_)
      refine gr_y_work hG ht hY.1 hY.2.1 hY.2.2 (fun b' hB => ?_)
      dsimp only
      exact ⟨_, gr_y_st ht hY.2.2 hB l (n + 1) 0 0 (by omega) ⟨rfl, gr_mk hG ht hX hY⟩⟩
/-! longest -/
def gr_gl (B : Nat → Nat → Bool) (i j : Nat) (x : Int32) : Int32 :=
  if nI j - nI i ≤ x then x else if B i j = true then nI j - nI i else x
theorem gr_x_lo1 {post : Int32 → SX → Prop} {J : Int32 → Int32 → Prop} {a al ar tx : Nat → Int32} {c : Nat} {L R : Nat → Nat} {n : Nat} {t : Nat → Nat} {rc : Int32}
    (hn : n ≤ 8) (hS : gr_XS c L R n t a) {s i : Nat} (hs : s < 8) (hi : i ≤ n) : ∀ d j x, j + d = n + 1 →
    J (gr_fd (gr_gl (gr_B c L R n t s) i) j d x) (nI (i + 1)) → wX_longest_29 post J (nI s) (nI i) rc (nI n) al ar tx a (d + 1) x (nI j) := by
  intro d
  induction d with
  | zero =>
    intro j x hj h
    exact br_t (nI_lt (by omega) (by omega)) (nm_r (nI_1 i) h)
  | succ d ih =>
    intro j x hj h
    have h2 : J (gr_fd (gr_gl (gr_B c L R n t s) i) (j + 1) d (if nI j - nI i ≤ x then x else if gr_B c L R n t s i j = true then nI j - nI i else x)) (nI (i + 1)) := h
    refine br_f (nI_nlt (by omega) (by omega)) ?_
    rw [gr_i9 s i, nI_clamp (n := 9 * s + i) (by omega)]
    refine br_c (fun e => ?_) (fun e => ⟨vp_in_nI (by omega) (by decide), gr_x_bit (by omega) ?_⟩)
    · rw [if_pos e] at h2
      exact nm_r (nI_1 j) (ih (j + 1) _ (by omega) h2)
    · rw [if_neg e] at h2
      rw [hS s hs i (by omega) j]
      by_cases g : gr_B c L R n t s i j = true
      · rw [if_pos g] at h2
        rw [g]
        exact br_t rfl (nm_e (nm_r (nI_1 j) (ih (j + 1) _ (by omega) h2)))
      · rw [if_neg g] at h2
        rw [gr_nt g]
        exact br_f (by decide) (nm_r (nI_1 j) (ih (j + 1) _ (by omega) h2))
theorem gr_y_lo1 {post : Int32 → SY → Prop} {J : Int32 → Int32 → Prop} {b bl br ty : Nat → Int32} {c : Nat} {L R : Nat → Nat} {n : Nat} {t : Nat → Nat} {cn : Int32}
    (ht : gr_tx n t) (hy : gr_A ty t n) (hb : gr_YS c L R n t b) {s i : Nat} (hs : s < 8) (hi : i ≤ n) : ∀ d j x, i ≤ j → j + d = n + 1 →
    J (gr_fd (gr_gl (gr_B c L R n t s) i) j d x) (nI (i + 1)) → wY_longest_30 post J (nI s) (nI i) cn (nI n) bl br ty b (d + 1) x (nI j) := by
  have hn := ht.1
  intro d
  induction d with
  | zero =>
    intro j x _ hj h
    exact br_t (nI_lt (by omega) (by omega)) (nm_r (nI_1 i) h)
  | succ d ih =>
    intro j x ij hj h
    have h2 : J (gr_fd (gr_gl (gr_B c L R n t s) i) (j + 1) d (if nI j - nI i ≤ x then x else if gr_B c L R n t s i j = true then nI j - nI i else x)) (nI (i + 1)) := h
    refine br_f (nI_nlt (by omega) (by omega)) ?_
    refine br_c (fun e => ?_) (fun e => ?_)
    · rw [if_pos e] at h2
      exact nm_r (nI_1 j) (ih (j + 1) _ (by omega) (by omega) h2)
    · rw [if_neg e] at h2
      refine gr_y_signS ht hy hb hs ij (by omega) ?_
      by_cases g : gr_B c L R n t s i j = true
      · rw [if_pos g] at h2
        rw [g]
        exact br_f (by decide) (nm_e (nm_r (nI_1 j) (ih (j + 1) _ (by omega) (by omega) h2)))
      · rw [if_neg g] at h2
        rw [gr_nt g]
        exact br_t (by decide) (nm_r (nI_1 j) (ih (j + 1) _ (by omega) (by omega) h2))
theorem gr_x_lo {post : Int32 → SX → Prop} {a al ar tx : Nat → Int32} {c : Nat} {L R : Nat → Nat} {n : Nat} {t : Nat → Nat} {rc : Int32}
    (hn : n ≤ 8) (hS : gr_XS c L R n t a) {s : Nat} (hs : s < 8) : ∀ d i x, i + d = n + 1 →
    post (gr_fd (gr_go (gr_gl (gr_B c L R n t s)) n) i d x) (rc, nI n, al, ar, tx, a) → wX_longest_18 post (nI s) rc (nI n) al ar tx a (d + 1) x (nI i) := by
  intro d
  induction d with
  | zero =>
    intro i x hi h
    exact br_t (nI_lt (by omega) (by omega)) h
  | succ d ih =>
    intro i x hi h
    exact br_f (nI_nlt (by omega) (by omega)) ⟨_, gr_x_lo1 hn hS hs (by omega) (n + 1 - i) i x (by omega) (ih (i + 1) _ (by omega) h)⟩
theorem gr_y_lo {post : Int32 → SY → Prop} {b bl br ty : Nat → Int32} {c : Nat} {L R : Nat → Nat} {n : Nat} {t : Nat → Nat} {cn : Int32}
    (ht : gr_tx n t) (hy : gr_A ty t n) (hb : gr_YS c L R n t b) {s : Nat} (hs : s < 8) : ∀ d i x, i + d = n + 1 →
    post (gr_fd (gr_go (gr_gl (gr_B c L R n t s)) n) i d x) (cn, nI n, bl, br, ty, b) → wY_longest_19 post (nI s) cn (nI n) bl br ty b (d + 1) x (nI i) := by
  have hn := ht.1
  intro d
  induction d with
  | zero =>
    intro i x hi h
    exact br_t (nI_lt (by omega) (by omega)) h
  | succ d ih =>
    intro i x hi h
    exact br_f (nI_nlt (by omega) (by omega)) ⟨_, gr_y_lo1 ht hy hb hs (by omega) (n + 1 - i) i x (by omega) (by omega) (ih (i + 1) _ (by omega) h)⟩
theorem i_vc_longest {k : Nat} {u : SX} {v : SY} (I : i_Rel k u v) (hk : k + 4 ≤ 2048) (v1 : Int32) : wpX_longest (fun r u' => wpY_longest (fun r' v' => r' = r ∧ i_Rel (k + 4) u' v') v v1) u v1 := by
  obtain ⟨c, n, L, R, t, al, ar, tx, a, bl, br, ty, b, rfl, rfl, hG, ht, hX, hY⟩ := I
  have hn := ht.1
  have M : i_Rel (k + 4) (nI c, nI n, al, ar, tx, a) (nI c, nI n, bl, br, ty, b) := gr_mk hG ht hX hY
  unfold wpX_longest wpY_longest
  dsimp only
  rcases gr_ng v1 with h | ⟨s, hs, rfl⟩
  · exact gr_x_signN h (br_t rfl (gr_y_bsignN h (br_f (by decide) ⟨rfl, M⟩)))
  · refine gr_x_sign hs (fun l => br_t rfl ?_) (fun l => br_f (by decide) ?_)
    · exact gr_y_bsign hs (fun _ => br_f (by decide) ⟨rfl, M⟩) (fun z => absurd z (by omega))
    · refine gr_x_find hG ht hX.1 hX.2.1 hX.2.2 (fun a' hS => ?_)
      dsimp only
      refine ⟨_, gr_x_lo hn hS l (n + 1) 0 (-2) (by omega) ?_⟩
      refine gr_y_bsign hs (fun z => absurd z (by omega)) (fun _ => br_t rfl ?_)
      refine gr_y_work hG ht hY.1 hY.2.1 hY.2.2 (fun b' hB => ?_)
      dsimp only
      exact ⟨_, gr_y_lo ht hY.2.2 hB l (n + 1) 0 (-2) (by omega) ⟨rfl, gr_mk hG ht hX hY⟩⟩
/-! ways -/
def gr_gw (L : Nat → Nat) (E : Nat → Bool) (s q : Nat) (x : Int32) : Int32 := if L q = s then x + gr_vb (E q) else x
theorem gr_x_wa {post : Int32 → SX → Prop} {a al ar tx : Nat → Int32} {c : Nat} {L R : Nat → Nat} {n : Nat} {t : Nat → Nat} {tl : Int32}
    (hG : gr_G c L R) (hl : gr_A al L c) (hr : gr_A ar R c) (hS : gr_XS c L R n t a) {s i j : Nat} (hs : s < 5) (hi : i < 9) (hj : j < 9) :
    ∀ d q x, q + d = c →
    post (gr_fd (gr_gw L (fun q => gr_E c L R n t (R q) i j) s) q d x) (nI c, tl, al, ar, tx, a) →
    wX_ways_31 post (nI s) (nI i) (nI j) (nI c) tl al ar tx a (d + 1) x (nI q) := by
  have hc := hG.1
  intro d
  induction d with
  | zero =>
    intro q x hq h
    exact br_t (nI_le (by omega) (by omega)) h
  | succ d ih =>
    intro q x hq h
    have hq' : q < c := by omega
    have hL := gr_G_L hG q hq'
    have h2 : post (gr_fd (gr_gw L (fun q => gr_E c L R n t (R q) i j) s) (q + 1) d
      (if L q = s then x + gr_vb (gr_E c L R n t (R q) i j) else x)) (nI c, tl, al, ar, tx, a) := h
    refine br_f (nI_ge hq' (by omega)) ?_
    rw [nI_clamp (n := q) (by omega), hl q hq']
    refine ⟨vp_in_nI (by omega) (by decide), pk_eq (L q) s (fun e => ?_) (fun e => ?_)⟩
    · rw [if_pos e] at h2
      refine gr_x_eor hG hq' hr (gr_x_bit (by omega) ?_)
      rw [gr_XS_e hS (gr_G_R hG q hq') hi j]
      exact nm_e (nm_r (nI_1 q) (ih (q + 1) _ (by omega) h2))
    · rw [if_neg e] at h2
      exact nm_r (nI_1 q) (ih (q + 1) _ (by omega) h2)
theorem gr_y_wa {post : Int32 → SY → Prop} {b bl br ty : Nat → Int32} {c : Nat} {L R : Nat → Nat} {n : Nat} {t : Nat → Nat} {ln : Int32}
    (hG : gr_G c L R) (ht : gr_tx n t) (hl : gr_A bl L c) (hr : gr_A br R c) (hy : gr_A ty t n) (hb : gr_YS c L R n t b) {s i j : Nat} (hs : s < 5)
    (hij : i ≤ j) (hj : j ≤ n) : ∀ d q x, q + d = c →
    post (gr_fd (gr_gw L (fun q => gr_E c L R n t (R q) i j) s) q d x) (nI c, ln, bl, br, ty, b) →
    wY_ways_33 post (nI s) (nI i) (nI j) (nI c) ln bl br ty b (d + 1) x (nI q) := by
  have hc := hG.1
  intro d
  induction d with
  | zero =>
    intro q x hq h
    exact br_t (nI_le (by omega) (by omega)) h
  | succ d ih =>
    intro q x hq h
    have hq' : q < c := by omega
    have hL := gr_G_L hG q hq'
    have h2 : post (gr_fd (gr_gw L (fun q => gr_E c L R n t (R q) i j) s) (q + 1) d
      (if L q = s then x + gr_vb (gr_E c L R n t (R q) i j) else x)) (nI c, ln, bl, br, ty, b) := h
    refine br_f (nI_ge hq' (by omega)) (br_f (nI_ge (b := 12) (by omega) (by decide)) ?_)
    rw [nI_clamp (n := q) (by omega), hl q hq', hr q hq']
    refine ⟨vp_in_nI (by omega) (by decide), pk_eq (L q) s (fun e => ⟨vp_in_nI (by omega) (by decide), ?_⟩) (fun e => ?_)⟩
    · rw [if_pos e] at h2
      refine gr_y_rowS hG ht hy hb (hG.2 q hq').2 hij hj ?_
      by_cases g : gr_E c L R n t (R q) i j = true
      · rw [g] at h2 ⊢
        exact br_f (by decide) (nm_e (nm_r (nI_1 q) (ih (q + 1) _ (by omega) h2)))
      · rw [gr_nt g] at h2 ⊢
        have z : x + gr_vb false = x := Int32.add_zero x
        rw [z] at h2
        exact br_t (by decide) (nm_r (nI_1 q) (ih (q + 1) _ (by omega) h2))
    · rw [if_neg e] at h2
      exact nm_r (nI_1 q) (ih (q + 1) _ (by omega) h2)
theorem i_vc_ways {k : Nat} {u : SX} {v : SY} (I : i_Rel k u v) (hk : k + 4 ≤ 2048) (v1 : Int32) (v2 : Int32) (v3 : Int32) : wpX_ways (fun r u' => wpY_ways (fun r' v' => r' = r ∧ i_Rel (k + 4) u' v') v v1 v2 v3) u v1 v2 v3 := by
  obtain ⟨c, n, L, R, t, al, ar, tx, a, bl, br, ty, b, rfl, rfl, hG, ht, hX, hY⟩ := I
  have hn := ht.1
  have hc := hG.1
  have M : i_Rel (k + 4) (nI c, nI n, al, ar, tx, a) (nI c, nI n, bl, br, ty, b) := gr_mk hG ht hX hY
  unfold wpX_ways wpY_ways
  dsimp only
  rcases gr_ng v1 with h | ⟨s, hs, rfl⟩
  · exact gr_x_nameN h (br_t rfl (br_t h ⟨rfl, M⟩))
  · refine gr_x_name hs (fun l => br_t rfl ?_) (fun l => br_f (by decide) ?_)
    · exact br_f (nI_pos hs) (pk_le s 4 (fun z => absurd z (by omega)) (fun _ => ⟨rfl, M⟩))
    · rcases gr_src hn v2 v3 with hb | ⟨i, j, hij, hj, rfl, rfl⟩
      · refine gr_x_str0 hb (br_t rfl ?_)
        exact br_f (nI_pos hs) (pk_le s 4 (fun _ => gr_y_str0 hb (br_f (by decide) ⟨rfl, M⟩)) (fun z => absurd z (by omega)))
      · refine gr_x_str1 hn hij hj (br_f (by decide) ?_)
        refine gr_x_find hG ht hX.1 hX.2.1 hX.2.2 (fun a' hS => ?_)
        dsimp only
        refine ⟨_, gr_x_wa hG hX.1 hX.2.1 hS l (by omega) (by omega) c 0 0 (by omega) ?_⟩
        refine br_f (nI_pos hs) (pk_le s 4 (fun _ => gr_y_str1 hn hij hj (br_t rfl ?_)) (fun z => absurd z (by omega)))
        refine gr_y_work hG ht hY.1 hY.2.1 hY.2.2 (fun b' hB => ?_)
        dsimp only
        exact ⟨_, gr_y_wa hG ht hY.1 hY.2.1 hY.2.2 hB l hij hj c 0 0 (by omega) ⟨rfl, gr_mk hG ht hX hY⟩⟩
