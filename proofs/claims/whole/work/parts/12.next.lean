/-! nextLetter -/
noncomputable def gr_N (c : Nat) (L R : Nat → Nat) (n : Nat) (t : Nat → Nat) (l : Nat) : Bool := gr_B c L R (n + 1) (gr_up t n l) 0 0 (n + 1)
theorem gr_x_nl {post : Int32 → SX → Prop} {a al ar tx : Nat → Int32} {c : Nat} {L R : Nat → Nat} {n : Nat} {t : Nat → Nat} {f l : Nat}
    (hG : gr_G c L R) (ht : gr_tx n t) (hl : gr_A al L c) (hr : gr_A ar R c) (hx : gr_A tx t n) (hn : n < 8) (h5 : 5 ≤ l) (h7 : l ≤ 7)
    (h1 : ∀ a, gr_N c L R n t l = true → post (nI l) (nI c, nI n, al, ar, tx, a))
    (h0 : ∀ a, gr_N c L R n t l = false → wX_nextLetter_13 post f (nI (l + 1)) (nI c) (nI n) al ar tx a) :
    wX_nextLetter_13 post (f + 1) (nI l) (nI c) (nI n) al ar tx a := by
  refine br_f (nI_ge (b := 8) (by omega) (by decide)) ?_
  refine gr_x_layText ht hx (fun a1 hL1 => ?_)
  dsimp only
  have hL2 := gr_La_s (t' := gr_up t n l) hL1 hn (by rw [gr_up_s]; omega) (fun i hi => gr_up_n (by omega))
  rw [gr_up_s] at hL2
  refine gr_x_layLetter (by omega) hn ?_
  dsimp only
  rw [nI_1 n]
  refine gr_x_rules (n := n + 1) (t := gr_up t n l) hG (by omega) (gr_La_I hL2 (fun i hi => ((gr_tx_up ht hn h5 h7).2 i hi).1)) hl hr (fun a2 hS => ?_)
  dsimp only
  rw [nI_1 n]
  refine gr_x_bit (by omega) ?_
  have e : bt (a2 0) (n + 1) = gr_N c L R n t l := hS 0 (by omega) 0 (by omega) (n + 1)
  rw [e]
  by_cases g : gr_N c L R n t l = true
  · rw [g]
    exact br_t rfl (h1 a2 g)
  · have g' := gr_nt g
    rw [g']
    exact br_f (by decide) (nm_r (nI_1 l) (h0 a2 g'))
theorem gr_y_nl {post : Int32 → SY → Prop} {b bl br ty : Nat → Int32} {c : Nat} {L R : Nat → Nat} {n : Nat} {t : Nat → Nat} {f l : Nat} {x : Int32}
    (hG : gr_G c L R) (ht : gr_tx n t) (hl : gr_A bl L c) (hr : gr_A br R c) (hy : gr_A ty t n) (hn : n < 8) (h5 : 5 ≤ l) (h7 : l ≤ 7)
    (h : ∀ ty' b', gr_A ty' t n → wY_nextLetter_16 post f (if gr_N c L R n t l = true then nI l else x) (nI (l - 1)) (nI c) (nI n) bl br ty' b') :
    wY_nextLetter_16 post (f + 1) x (nI l) (nI c) (nI n) bl br ty b := by
  have hy' : gr_A (upd ty n (nI l)) t n := fun q hq => by
    rw [pk_un (by omega)]
    exact hy q hq
  have e1 : nI (n + 1) - 1 = nI n := nI_pred n
  have e2 : nI l + (-1) = nI (l - 1) := by
    have := pk_m1 (l - 1)
    rw [show l - 1 + 1 = l by omega] at this
    exact this
  refine br_f (nI_ge (a := 4) (by omega) (by omega)) ?_
  rw [nI_clamp (n := n) (by omega)]
  refine ⟨vp_in_nI hn (by decide), nm_e (nm_r (nI_1 n) ?_)⟩
  refine gr_y_work (n := n + 1) (t := gr_up t n l) hG (gr_tx_up ht hn h5 h7) hl hr (gr_A_up hy) (fun b' hB => ?_)
  dsimp only
  refine gr_y_signS (s := 0) (i := 0) (j := n + 1) (gr_tx_up ht hn h5 h7) (gr_A_up hy) hB (by omega) (by omega) (by omega) ?_
  have hk := h _ b' hy'
  have e : gr_B c L R (n + 1) (gr_up t n l) 0 0 (n + 1) = gr_N c L R n t l := rfl
  rw [e]
  by_cases g : gr_N c L R n t l = true
  · rw [if_pos g] at hk
    rw [g]
    exact br_f (by decide) (nm_r e1 (nm_r e2 hk))
  · rw [if_neg g] at hk
    rw [gr_nt g]
    exact br_t (by decide) (nm_r e1 (nm_r e2 hk))
theorem i_vc_nextLetter {k : Nat} {u : SX} {v : SY} (I : i_Rel k u v) (hk : k + 4 ≤ 2048) : wpX_nextLetter (fun r u' => wpY_nextLetter (fun r' v' => r' = r ∧ i_Rel (k + 4) u' v') v) u := by
  obtain ⟨c, n, L, R, t, al, ar, tx, a, bl, br, ty, b, rfl, rfl, hG, ht, hX, hY⟩ := I
  have hn := ht.1
  unfold wpX_nextLetter wpY_nextLetter
  dsimp only
  refine pk_lt n 8 (fun ln => ?_) (fun ln => ?_)
  · have Y : ∀ (r : Int32) (a' : Nat → Int32), r = (if gr_N c L R n t 5 = true then nI 5 else if gr_N c L R n t 6 = true then nI 6 else if gr_N c L R n t 7 = true then nI 7 else 0) →
        (nI n ≤ 7 → ∃ m, wY_nextLetter_16 (fun r' v' => r' = r ∧ i_Rel (k + 4) (nI c, nI n, al, ar, tx, a') v') m 0 7 (nI c) (nI n) bl br ty b) ∧
        (¬ nI n ≤ 7 → ((-1 : Int32) = r ∧ i_Rel (k + 4) (nI c, nI n, al, ar, tx, a') (nI c, nI n, bl, br, ty, b))) := by
      intro r a' hr
      refine pk_le n 7 (fun _ => ⟨4, ?_⟩) (fun z => absurd z (by omega))
      refine gr_y_nl (l := 7) hG ht hY.1 hY.2.1 hY.2.2 ln (by omega) (by omega) (fun t1 b1 hy1 => ?_)
      refine gr_y_nl (l := 6) hG ht hY.1 hY.2.1 hy1 ln (by omega) (by omega) (fun t2 b2 hy2 => ?_)
      refine gr_y_nl (l := 5) hG ht hY.1 hY.2.1 hy2 ln (by omega) (by omega) (fun t3 b3 hy3 => ?_)
      exact br_t (nI_le (a := 4) (b := 4) (by omega) (by decide)) ⟨hr.symm, gr_mk hG ht hX ⟨hY.1, hY.2.1, hy3⟩⟩
    refine ⟨4, ?_⟩
    refine gr_x_nl (l := 5) hG ht hX.1 hX.2.1 hX.2.2 ln (by omega) (by omega) (fun a1 g5 => Y _ a1 ?_) (fun a1 g5 => ?_)
    · rw [if_pos g5]
    · refine gr_x_nl (l := 6) hG ht hX.1 hX.2.1 hX.2.2 ln (by omega) (by omega) (fun a2 g6 => Y _ a2 ?_) (fun a2 g6 => ?_)
      · rw [if_neg (by rw [g5]; decide), if_pos g6]
      · refine gr_x_nl (l := 7) hG ht hX.1 hX.2.1 hX.2.2 ln (by omega) (by omega) (fun a3 g7 => Y _ a3 ?_) (fun a3 g7 => ?_)
        · rw [if_neg (by rw [g5]; decide), if_neg (by rw [g6]; decide), if_pos g7]
        · refine br_t (nI_le (a := 8) (b := 8) (by omega) (by decide)) (Y _ a3 ?_)
          rw [if_neg (by rw [g5]; decide), if_neg (by rw [g6]; decide), if_neg (by rw [g7]; decide)]
  · exact pk_le n 7 (fun z => absurd z (by omega)) (fun _ => ⟨rfl, gr_mk hG ht hX hY⟩)
