/-! write -/
theorem gr_p3 {m : Nat} (hm : m ≤ 8) : 3 ^ m < 2 ^ 31 := by
  have h : 3 ^ m ≤ 3 ^ 8 := Nat.pow_le_pow_right (by decide) hm
  have e : (3 : Nat) ^ 8 = 6561 := by decide
  omega
theorem gr_x_texts {post : Int32 → Prop} {m : Nat} (hm : m ≤ 8) (h : post (nI (3 ^ m))) : wpX_textsOfLength post (nI m) := by
  unfold wpX_textsOfLength
  refine loop_0 (fun f i (s : Int32) => wX_textsOfLength_4 post (nI m) f s (nI i)) (fun i s => s = nI (3 ^ i)) m 1 rfl ?_ ?_
  · intro f s hs
    subst hs
    exact br_t (nI_le (Nat.le_refl m) (by omega)) h
  · intro f i s hi hs k
    subst hs
    exact br_f (nI_ge hi (by omega)) (nm_r (pk_mul (3 ^ i) 3) (nm_r (nI_1 i) (k _ rfl)))
theorem gr_y_texts {post : Int32 → SY → Prop} {x cn ln : Int32} {bl br ty b : Nat → Int32} {m : Nat} (hm : m ≤ 8)
    (h : ∀ f, wY_write_17 post (nI m) x cn ln bl br ty b (f + 1) (nI (3 ^ m)) (nI m)) :
    ∃ f, wY_write_17 post (nI m) x cn ln bl br ty b f 1 0 := by
  refine loop_0 (fun f i (s : Int32) => wY_write_17 post (nI m) x cn ln bl br ty b f s (nI i)) (fun i s => s = nI (3 ^ i)) m 1 rfl ?_ ?_
  · intro f s hs
    subst hs
    exact h f
  · intro f i s hi hs k
    subst hs
    have e : (3 : Int32) * nI (3 ^ i) = nI (3 ^ (i + 1)) := by
      rw [Nat.pow_succ, Nat.mul_comm]
      exact pk_mul 3 (3 ^ i)
    exact br_f (nI_ge hi (by omega)) (nm_r e (nm_r (nI_1 i) (k _ rfl)))
theorem gr_m1 (p : Nat) : nI p + (-1) = nI p - 1 := (Int32.sub_eq_add_neg (nI p) 1).symm
theorem gr_x_w34 {post : Int32 → SX → Prop} {rc tl : Int32} {al ar a : Nat → Int32} {m : Nat} : ∀ (p w : Nat) (tx : Nat → Int32), p ≤ 8 → w < 2 ^ 31 →
    post (nI m) (rc, nI m, al, ar, gr_lay p w tx, a) → wX_write_34 post (nI m) rc tl (p + 1) (nI w) (nI p - 1) al ar tx a := by
  intro p
  induction p with
  | zero =>
    intro w tx _ _ h
    exact br_t (by decide) h
  | succ p ih =>
    intro w tx hp hw h
    rw [nI_pred p]
    refine br_f (nI_pos (by omega)) ?_
    rw [gr_m3 hw, gr_5p, gr_d3 hw, nI_clamp (n := p) (by omega)]
    refine ⟨by decide, vp_in_nI (by omega) (by decide), nm_e ⟨by decide, nm_e (nm_r (gr_m1 p) ?_)⟩⟩
    exact ih (w / 3) _ (by omega) (by omega) h
theorem gr_y_w53 {post : Int32 → SY → Prop} {rc tl : Int32} {al ar a : Nat → Int32} {m : Nat} : ∀ (p w : Nat) (tx : Nat → Int32), p ≤ 8 → w < 2 ^ 31 →
    post (nI m) (rc, nI m, al, ar, gr_lay p w tx, a) → wY_write_53 post (nI m) rc tl (p + 1) (nI w) (nI p - 1) al ar tx a := by
  intro p
  induction p with
  | zero =>
    intro w tx _ _ h
    exact br_t (by decide) h
  | succ p ih =>
    intro w tx hp hw h
    rw [nI_pred p]
    refine br_f (nI_pos (by omega)) ?_
    rw [gr_m3 hw, gr_5p, gr_d3 hw, nI_clamp (n := p) (by omega)]
    refine ⟨by decide, vp_in_nI (by omega) (by decide), nm_e ⟨by decide, nm_e (nm_r (gr_m1 p) ?_)⟩⟩
    exact ih (w / 3) _ (by omega) (by omega) h
theorem i_vc_write {k : Nat} {u : SX} {v : SY} (I : i_Rel k u v) (hk : k + 4 ≤ 2048) (v1 : Int32) (v2 : Int32) : wpX_write (fun r u' => wpY_write (fun r' v' => r' = r ∧ i_Rel (k + 4) u' v') v v1 v2) u v1 v2 := by
  obtain ⟨c, n, L, R, t, al, ar, tx, a, bl, br, ty, b, rfl, rfl, hG, ht, hX, hY⟩ := I
  have M : i_Rel (k + 4) (nI c, nI n, al, ar, tx, a) (nI c, nI n, bl, br, ty, b) := gr_mk hG ht hX hY
  unfold wpX_write wpY_write
  dsimp only
  rcases gr_ng v1 with h | ⟨m, hm, rfl⟩
  · exact br_t h (br_t h ⟨rfl, M⟩)
  · refine br_f (nI_pos hm) (pk_le m 8 (fun l8 => ?_) (fun l8 => ?_))
    · have h3 := gr_p3 l8
      rcases gr_ng v2 with h | ⟨w, hw, rfl⟩
      · refine br_t h (br_f (nI_pos hm) (pk_le m 8 (fun _ => ?_) (fun z => absurd z (by omega))))
        exact gr_y_texts l8 (fun f => br_t (nI_le (Nat.le_refl m) (by omega)) (br_t h ⟨rfl, M⟩))
      · refine br_f (nI_pos hw) (gr_x_texts l8 ?_)
        refine pk_lt w (3 ^ m) (fun l => nm_e ⟨m + 1, gr_x_w34 m w tx l8 hw ?_⟩) (fun l => ?_)
        · refine br_f (nI_pos hm) (pk_le m 8 (fun _ => ?_) (fun z => absurd z (by omega)))
          refine gr_y_texts l8 (fun f => br_t (nI_le (Nat.le_refl m) (by omega)) (br_f (nI_pos hw) ?_))
          refine pk_lt w (3 ^ m) (fun _ => nm_e ⟨m + 1, gr_y_w53 m w ty l8 hw ⟨rfl, ?_⟩⟩) (fun z => absurd z (by omega))
          exact gr_mk hG (gr_tx_dg l8) ⟨hX.1, hX.2.1, gr_lay_lo m w tx⟩ ⟨hY.1, hY.2.1, gr_lay_lo m w ty⟩
        · refine br_f (nI_pos hm) (pk_le m 8 (fun _ => ?_) (fun z => absurd z (by omega)))
          refine gr_y_texts l8 (fun f => br_t (nI_le (Nat.le_refl m) (by omega)) (br_f (nI_pos hw) ?_))
          exact pk_lt w (3 ^ m) (fun z => absurd z (by omega)) (fun _ => ⟨rfl, M⟩)
    · exact br_f (nI_pos hm) (pk_le m 8 (fun z => absurd z (by omega)) (fun _ => ⟨rfl, M⟩))
/-! accepts, fits, empty, ruleFits -/
theorem gr_yn {B : Bool} {M : Prop} (m : M) : (gr_vb B = 0 → ((0 : Int32) = gr_vb B ∧ M)) ∧ (¬ gr_vb B = 0 → ((1 : Int32) = gr_vb B ∧ M)) := by
  cases B
  · exact br_t rfl ⟨rfl, m⟩
  · exact br_f (by decide) ⟨rfl, m⟩
theorem i_vc_accepts {k : Nat} {u : SX} {v : SY} (I : i_Rel k u v) (hk : k + 4 ≤ 2048) : wpX_accepts (fun r u' => wpY_accepts (fun r' v' => r' = r ∧ i_Rel (k + 4) u' v') v) u := by
  obtain ⟨c, n, L, R, t, al, ar, tx, a, bl, br, ty, b, rfl, rfl, hG, ht, hX, hY⟩ := I
  have hn := ht.1
  unfold wpX_accepts wpY_accepts
  dsimp only
  refine gr_x_find hG ht hX.1 hX.2.1 hX.2.2 (fun a' hS => ?_)
  dsimp only
  refine gr_x_bit (by omega) ?_
  refine gr_y_work hG ht hY.1 hY.2.1 hY.2.2 (fun b' hB => ?_)
  dsimp only
  refine gr_y_signS (s := 0) (i := 0) (j := n) ht hY.2.2 hB (by omega) (by omega) (by omega) ?_
  have e : bt (a' 0) n = gr_B c L R n t 0 0 n := hS 0 (by omega) 0 (by omega) n
  rw [e]
  exact gr_yn (gr_mk hG ht hX hY)
theorem i_vc_fits {k : Nat} {u : SX} {v : SY} (I : i_Rel k u v) (hk : k + 4 ≤ 2048) (v1 : Int32) (v2 : Int32) (v3 : Int32) : wpX_fits (fun r u' => wpY_fits (fun r' v' => r' = r ∧ i_Rel (k + 4) u' v') v v1 v2 v3) u v1 v2 v3 := by
  obtain ⟨c, n, L, R, t, al, ar, tx, a, bl, br, ty, b, rfl, rfl, hG, ht, hX, hY⟩ := I
  have hn := ht.1
  have M : i_Rel (k + 4) (nI c, nI n, al, ar, tx, a) (nI c, nI n, bl, br, ty, b) := gr_mk hG ht hX hY
  unfold wpX_fits wpY_fits
  dsimp only
  rcases gr_ng v1 with h | ⟨s, hs, rfl⟩
  · exact gr_x_signN h (br_t rfl (gr_y_bsignN h (br_f (by decide) ⟨rfl, M⟩)))
  · refine gr_x_sign hs (fun l => br_t rfl ?_) (fun l => br_f (by decide) ?_)
    · exact gr_y_bsign hs (fun _ => br_f (by decide) ⟨rfl, M⟩) (fun z => absurd z (by omega))
    · rcases gr_src hn v2 v3 with hb | ⟨i, j, hij, hj, rfl, rfl⟩
      · refine gr_x_str0 hb (br_t rfl ?_)
        exact gr_y_bsign hs (fun z => absurd z (by omega)) (fun _ => br_t rfl (gr_y_str0 hb (br_f (by decide) ⟨rfl, M⟩)))
      · refine gr_x_str1 hn hij hj (br_f (by decide) ?_)
        refine gr_x_find hG ht hX.1 hX.2.1 hX.2.2 (fun a' hS => ?_)
        dsimp only
        rw [gr_i9 s i, nI_clamp (n := 9 * s + i) (by omega)]
        refine ⟨vp_in_nI (by omega) (by decide), gr_x_bit (by omega) ?_⟩
        refine gr_y_bsign hs (fun z => absurd z (by omega)) (fun _ => br_t rfl (gr_y_str1 hn hij hj (br_t rfl ?_)))
        refine gr_y_work hG ht hY.1 hY.2.1 hY.2.2 (fun b' hB => ?_)
        dsimp only
        refine gr_y_signS ht hY.2.2 hB l hij hj ?_
        rw [hS s l i (by omega) j]
        exact gr_yn (gr_mk hG ht hX hY)
theorem i_vc_empty {k : Nat} {u : SX} {v : SY} (I : i_Rel k u v) (hk : k + 4 ≤ 2048) (v1 : Int32) : wpX_empty (fun r u' => wpY_empty (fun r' v' => r' = r ∧ i_Rel (k + 4) u' v') v v1) u v1 := by
  obtain ⟨c, n, L, R, t, al, ar, tx, a, bl, br, ty, b, rfl, rfl, hG, ht, hX, hY⟩ := I
  have hn := ht.1
  have M : i_Rel (k + 4) (nI c, nI n, al, ar, tx, a) (nI c, nI n, bl, br, ty, b) := gr_mk hG ht hX hY
  unfold wpX_empty wpY_empty
  dsimp only
  rcases gr_ng v1 with h | ⟨s, hs, rfl⟩
  · exact gr_x_nameN h (br_t rfl (br_t h ⟨rfl, M⟩))
  · refine gr_x_name hs (fun l => br_t rfl ?_) (fun l => br_f (by decide) ?_)
    · exact br_f (nI_pos hs) (pk_le s 4 (fun z => absurd z (by omega)) (fun _ => ⟨rfl, M⟩))
    · refine gr_x_find hG ht hX.1 hX.2.1 hX.2.2 (fun a' hS => ?_)
      dsimp only
      have e9 : nI s * 9 = nI (9 * s) := by
        rw [Nat.mul_comm]
        exact pk_mul s 9
      rw [e9, nI_clamp (n := 9 * s) (by omega)]
      refine ⟨vp_in_nI (by omega) (by decide), gr_x_bit (e := 0) (by omega) ?_⟩
      refine br_f (nI_pos hs) (pk_le s 4 (fun _ => ?_) (fun z => absurd z (by omega)))
      refine gr_y_work hG ht hY.1 hY.2.1 hY.2.2 (fun b' hB => ?_)
      dsimp only
      refine gr_y_signS (i := 0) (j := 0) ht hY.2.2 hB (by omega) (by omega) (by omega) ?_
      have e : bt (a' (9 * s)) 0 = gr_B c L R n t s 0 0 := hS s (by omega) 0 (by omega) 0
      rw [e]
      exact gr_yn (gr_mk hG ht hX hY)
theorem i_vc_ruleFits {k : Nat} {u : SX} {v : SY} (I : i_Rel k u v) (hk : k + 4 ≤ 2048) (v1 : Int32) (v2 : Int32) (v3 : Int32) : wpX_ruleFits (fun r u' => wpY_ruleFits (fun r' v' => r' = r ∧ i_Rel (k + 4) u' v') v v1 v2 v3) u v1 v2 v3 := by
  obtain ⟨c, n, L, R, t, al, ar, tx, a, bl, br, ty, b, rfl, rfl, hG, ht, hX, hY⟩ := I
  have hn := ht.1
  have hc := hG.1
  have M : i_Rel (k + 4) (nI c, nI n, al, ar, tx, a) (nI c, nI n, bl, br, ty, b) := gr_mk hG ht hX hY
  unfold wpX_ruleFits wpY_ruleFits
  dsimp only
  rcases gr_ng v1 with h | ⟨q, hq, rfl⟩
  · exact gr_x_ruleN h (br_t rfl (gr_y_bruleN h (br_f (by decide) ⟨rfl, M⟩)))
  · refine gr_x_rule hc hq (fun l => br_t rfl ?_) (fun l => br_f (by decide) ?_)
    · exact gr_y_brule hc hq (fun _ => br_f (by decide) ⟨rfl, M⟩) (fun z => absurd z (by omega))
    · rcases gr_src hn v2 v3 with hb | ⟨i, j, hij, hj, rfl, rfl⟩
      · refine gr_x_str0 hb (br_t rfl ?_)
        exact gr_y_brule hc hq (fun z => absurd z (by omega)) (fun _ => br_t rfl (gr_y_str0 hb (br_f (by decide) ⟨rfl, M⟩)))
      · refine gr_x_str1 hn hij hj (br_f (by decide) ?_)
        refine gr_x_find hG ht hX.1 hX.2.1 hX.2.2 (fun a' hS => ?_)
        dsimp only
        refine gr_x_eor hG l hX.2.1 (gr_x_bit (by omega) ?_)
        refine gr_y_brule hc hq (fun z => absurd z (by omega)) (fun _ => br_t rfl (gr_y_str1 hn hij hj (br_t rfl ?_)))
        refine gr_y_work hG ht hY.1 hY.2.1 hY.2.2 (fun b' hB => ?_)
        dsimp only
        rw [nI_clamp (n := q) (by omega), hY.2.1 q l]
        refine ⟨vp_in_nI (by omega) (by decide), gr_y_rowS hG ht hY.2.2 hB (hG.2 q l).2 hij hj ?_⟩
        rw [gr_XS_e hS (gr_G_R hG q l) (by omega) j]
        exact gr_yn (gr_mk hG ht hX hY)
/-! ends -/
theorem gr_y_ends {post : Int32 → SY → Prop} {b bl br ty : Nat → Int32} {c : Nat} {L R : Nat → Nat} {n : Nat} {t : Nat → Nat} {cn : Int32}
    (hG : gr_G c L R) (ht : gr_tx n t) (hy : gr_A ty t n) (hb : gr_YS c L R n t b) {s i : Nat} (hs : s < 8) (hi : i ≤ n)
    (H : ∀ x, (∀ p, bt x p = gr_B c L R n t s i p) → post x (cn, nI n, bl, br, ty, b)) :
    ∃ m, wY_ends_34 post (nI s) (nI i) cn (nI n) bl br ty b m 0 (nI i) := by
  have hn := ht.1
  refine pk_loop (fun m j (x : Int32) => wY_ends_34 post (nI s) (nI i) cn (nI n) bl br ty b m x (nI j))
    (fun j x => i ≤ j ∧ ∀ p, bt x p = (decide (p < j) && gr_B c L R n t s i p)) (n + 1) i 0 (by omega) ⟨Nat.le_refl i, fun p => ?_⟩ ?_ ?_
  · rw [b_0]
    by_cases e : p < i
    · have f : gr_B c L R n t s i p = false := gr_dc_f (fun g => absurd (gr_S_sup (gr_G_L hG) s i p hi g).1 (by omega))
      rw [f, Bool.and_false]
    · rw [decide_eq_false e, Bool.false_and]
  · intro m x hs'
    refine br_t (nI_lt (by omega) (by omega)) (H x (fun p => ?_))
    rw [hs'.2 p]
    by_cases e : p < n + 1
    · rw [decide_eq_true e, Bool.true_and]
    · have f : gr_B c L R n t s i p = false := gr_dc_f (fun g => absurd (gr_S_sup (gr_G_L hG) s i p hi g).2 (by omega))
      rw [f, Bool.and_false]
  · intro m j x hj hs' k
    obtain ⟨ij, hx⟩ := hs'
    refine br_f (nI_nlt (by omega) (by omega)) (br_f (nI_ge (b := 9) (by omega) (by decide)) ?_)
    refine gr_y_signS ht hy hb hs ij (by omega) ?_
    by_cases e : gr_B c L R n t s i j = true
    · rw [e]
      refine br_f (by decide) (nm_e (nm_r (nI_1 j) (k _ ⟨by omega, fun p => ?_⟩)))
      rw [b_or, hx p, gr_b1 (by omega)]
      by_cases ep : p = j
      · subst ep
        rw [e, decide_eq_true (rfl : p = p), Bool.or_true, decide_eq_true (show p < p + 1 by omega), Bool.true_and]
      · rw [decide_eq_false ep, Bool.or_false]
        by_cases lp : p < j
        · rw [decide_eq_true lp, decide_eq_true (show p < j + 1 by omega)]
        · rw [decide_eq_false lp, decide_eq_false (show ¬ p < j + 1 by omega)]
    · have e' := gr_nt e
      rw [e']
      refine br_t (by decide) (nm_r (nI_1 j) (k _ ⟨by omega, fun p => ?_⟩))
      rw [hx p]
      by_cases ep : p = j
      · subst ep
        rw [e', Bool.and_false, Bool.and_false]
      · by_cases lp : p < j
        · rw [decide_eq_true lp, decide_eq_true (show p < j + 1 by omega)]
        · rw [decide_eq_false lp, decide_eq_false (show ¬ p < j + 1 by omega)]
theorem i_vc_ends {k : Nat} {u : SX} {v : SY} (I : i_Rel k u v) (hk : k + 4 ≤ 2048) (v1 : Int32) (v2 : Int32) : wpX_ends (fun r u' => wpY_ends (fun r' v' => r' = r ∧ i_Rel (k + 4) u' v') v v1 v2) u v1 v2 := by
  obtain ⟨c, n, L, R, t, al, ar, tx, a, bl, br, ty, b, rfl, rfl, hG, ht, hX, hY⟩ := I
  have hn := ht.1
  have M : i_Rel (k + 4) (nI c, nI n, al, ar, tx, a) (nI c, nI n, bl, br, ty, b) := gr_mk hG ht hX hY
  unfold wpX_ends wpY_ends
  dsimp only
  rcases gr_ng v1 with h | ⟨s, hs, rfl⟩
  · exact gr_x_signN h (br_t rfl (gr_y_bsignN h (br_f (by decide) ⟨rfl, M⟩)))
  · refine gr_x_sign hs (fun l => br_t rfl ?_) (fun l => br_f (by decide) ?_)
    · exact gr_y_bsign hs (fun _ => br_f (by decide) ⟨rfl, M⟩) (fun z => absurd z (by omega))
    · rcases gr_ng v2 with h | ⟨i, hi, rfl⟩
      · exact br_t h (gr_y_bsign hs (fun z => absurd z (by omega)) (fun _ => br_t rfl (br_t h ⟨rfl, M⟩)))
      · refine br_f (nI_pos hi) (pk_le i n (fun li => ?_) (fun li => ?_))
        · refine gr_x_find hG ht hX.1 hX.2.1 hX.2.2 (fun a' hS => ?_)
          dsimp only
          rw [gr_i9 s i, nI_clamp (n := 9 * s + i) (by omega)]
          refine ⟨vp_in_nI (by omega) (by decide), ?_⟩
          refine gr_y_bsign hs (fun z => absurd z (by omega)) (fun _ => br_t rfl (br_f (nI_pos hi) ?_))
          refine pk_le i n (fun _ => ?_) (fun z => absurd z (by omega))
          refine gr_y_work hG ht hY.1 hY.2.1 hY.2.2 (fun b' hB => ?_)
          dsimp only
          refine gr_y_ends hG ht hY.2.2 hB l li (fun x hx => ⟨b_ext (fun p _ => ?_), gr_mk hG ht hX hY⟩)
          rw [hx p, hS s l i (by omega) p]
        · exact gr_y_bsign hs (fun z => absurd z (by omega)) (fun _ => br_t rfl (br_f (nI_pos hi) (pk_le i n (fun z => absurd z (by omega)) (fun _ => ⟨rfl, M⟩))))
