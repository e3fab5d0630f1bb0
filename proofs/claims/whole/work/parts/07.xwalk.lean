/-! X: a digit followed, a rule's ends -/
theorem gr_x_for {post : Int32 → Prop} {a al ar tx : Nat → Int32} {d : Nat} {b rc tl : Int32} (hd : 0 < d) (hd9 : d < 9)
    (h : post (gr_for a d b 9)) : ∃ n, wX_follow_11 post (nI d) b rc tl al ar tx a n 0 0 := by
  refine loop_0 (fun n i (s : Int32) => wX_follow_11 post (nI d) b rc tl al ar tx a n s (nI i)) (fun i s => s = gr_for a d b i) 9 0 rfl ?_ ?_
  · intro n s hs
    subst hs
    exact br_t (nI_le (a := 9) (b := 9) (by omega) (by decide)) h
  · intro n i s hi hs k
    subst hs
    refine br_f (nI_ge (b := 9) hi (by decide)) ?_
    rw [gr_bit b (show i < 32 by omega)]
    refine br_c (fun h1 => ?_) (fun h1 => ?_)
    · have hb : bt b i = true := gr_vb_1.mp h1
      rw [gr_i9p hd i, nI_clamp (n := 9 * (d - 1) + i) (by omega)]
      refine ⟨vp_in_nI (by omega) (by decide), nm_e (nm_r (nI_1 i) ?_)⟩
      exact k _ (if_pos hb).symm
    · have hb : ¬ bt b i = true := fun z => h1 (gr_vb_1.mpr z)
      refine nm_r (nI_1 i) ?_
      exact k _ (if_neg hb).symm
theorem gr_x_follow {post : Int32 → Prop} {a al ar tx : Nat → Int32} {d : Nat} {b rc tl : Int32} (hd9 : d < 9)
    (h : post (gr_fol a d b)) : wpX_follow post (rc, tl, al, ar, tx, a) (nI d) b := by
  unfold wpX_follow
  dsimp only
  unfold gr_fol at h
  by_cases h0 : d = 0
  · subst h0
    rw [if_pos rfl] at h
    exact br_t rfl h
  · rw [if_neg h0] at h
    exact br_f (nI_ne0 (by omega) (by omega)) (gr_x_for (by omega) hd9 h)
theorem gr_x_eor {post : Int32 → Prop} {a al ar tx : Nat → Int32} {c : Nat} {L R : Nat → Nat} {rc tl : Int32} (hG : gr_G c L R)
    {q i : Nat} (hq : q < c) (hr : gr_A ar R c) (h : post (gr_eor a (R q) i)) :
    wpX_endsOfRule post (rc, tl, al, ar, tx, a) (nI q) (nI i) := by
  have hc := hG.1
  have hR := gr_G_R hG q hq
  unfold wpX_endsOfRule
  dsimp only
  rw [nI_clamp (n := q) (by omega), hr q hq]
  refine ⟨vp_in_nI (by omega) (by decide), nm_e (nm_e ⟨by decide, ?_⟩)⟩
  rw [gr_d81 hR]
  refine gr_x_follow (by omega) ⟨by decide, by decide, ?_⟩
  rw [gr_dm9 hR]
  refine gr_x_follow (by omega) ⟨by decide, ?_⟩
  rw [gr_m9 hR]
  exact gr_x_follow (by omega) h
/-! X: a rule applied at all places -/
theorem gr_x_applyRule {post : Int32 → SX → Prop} {a0 al ar tx : Nat → Int32} {c : Nat} {L R : Nat → Nat} {n : Nat} {t : Nat → Nat}
    {rc tl : Int32} (hG : gr_G c L R) (hn : n ≤ 8) (hI : gr_I c L R n t a0) {q : Nat} (hq : q < c) (hl : gr_A al L c) (hr : gr_A ar R c)
    (H : ∀ g a, gr_I c L R n t a → gr_gx gr_cx a0 a g (gr_Qx a0 (L q) (R q) (n + 1)) → post g (rc, tl, al, ar, tx, a)) :
    wpX_applyRule post (rc, tl, al, ar, tx, a0) (nI q) (nI n) := by
  have hc := hG.1
  have hL := gr_G_L hG q hq
  unfold wpX_applyRule
  dsimp only
  refine loop_0 (fun m i (s : Int32 × (Nat → Int32)) => wX_applyRule_5 post (nI q) (nI n) rc tl m s.1 (nI i) al ar tx s.2)
    (fun i s => gr_I c L R n t s.2 ∧ gr_gx gr_cx a0 s.2 s.1 (gr_Qx a0 (L q) (R q) i)) (n + 1) (0, a0) ⟨hI, gr_gx_i gr_Qx_0⟩ ?_ ?_
  · intro m s hs
    obtain ⟨g, a⟩ := s
    dsimp only at hs ⊢
    refine br_t (nI_lt (by omega) (by omega)) ⟨?_, H g a hs.1 hs.2⟩
    rcases gr_gx_01 hs.2 with e | e <;> subst e <;> rfl
  · intro m i s hi hs k
    obtain ⟨g, a⟩ := s
    dsimp only at hs ⊢
    refine br_f (nI_nlt (by omega) (by omega)) ⟨vp_in_nI (by omega) (by decide), ?_⟩
    rw [nI_clamp (n := q) (by omega), hl q hq]
    refine nm_r (gr_i9 (L q) i) ?_
    rw [nI_clamp (n := 9 * L q + i) (by omega)]
    refine ⟨vp_in_nI (by omega) (by decide), nm_e ?_⟩
    refine gr_x_eor hG hq hr ⟨vp_in_nI (by omega) (by decide), nm_e ⟨vp_in_nI (by omega) (by decide), ?_⟩⟩
    rw [pk_us]
    by_cases e : a (9 * L q + i) ||| gr_eor a (R q) i = a (9 * L q + i)
    · refine br_t e (nm_r (nI_1 i) ?_)
      exact k (g, gr_st a (L q) (R q) i) ⟨gr_I_st hG hn hs.1 hq (by omega), gr_gx_eq (by omega) hs.2 e⟩
    · refine br_f e (nm_r (nI_1 i) ?_)
      exact k (1, gr_st a (L q) (R q) i) ⟨gr_I_st hG hn hs.1 hq (by omega), gr_gx_g hs.2 (gr_cx_st hG hn hs.1 hq (by omega) e)⟩
/-! X: one pass, all passes -/
theorem gr_x_pass {post : SX → Prop} {J : Int32 → Int32 → Int32 → Int32 → (Nat → Int32) → (Nat → Int32) → (Nat → Int32) → (Nat → Int32) → Prop}
    {a0 al ar tx : Nat → Int32} {c : Nat} {L R : Nat → Nat} {n : Nat} {t : Nat → Nat}
    {tl : Int32} {p : Nat} (hG : gr_G c L R) (hn : n ≤ 8) (hI : gr_I c L R n t a0) (hl : gr_A al L c) (hr : gr_A ar R c)
    (H : ∀ g a, gr_I c L R n t a → gr_gx gr_cx a0 a g (gr_Cx c L R n a0) → J g (nI (p + 1)) (nI c) tl al ar tx a) :
    ∃ m, wX_applyRules_20 post J (nI n) (nI p) m 0 0 (nI c) tl al ar tx a0 := by
  have hc := hG.1
  refine loop_0 (fun m r (s : Int32 × (Nat → Int32)) => wX_applyRules_20 post J (nI n) (nI p) m s.1 (nI r) (nI c) tl al ar tx s.2)
    (fun r s => gr_I c L R n t s.2 ∧ gr_gx gr_cx a0 s.2 s.1 (gr_Cx r L R n a0)) c (0, a0)
    ⟨hI, gr_gx_i (fun q hq => absurd hq (by omega))⟩ ?_ ?_
  · intro m s hs
    obtain ⟨g, a⟩ := s
    dsimp only at hs ⊢
    exact br_t (nI_le (Nat.le_refl c) (by omega)) (nm_r (nI_1 p) (H g a hs.1 hs.2))
  · intro m r s hi hs k
    obtain ⟨g, a⟩ := s
    dsimp only at hs ⊢
    refine br_f (nI_ge hi (by omega)) ?_
    refine gr_x_applyRule hG hn hs.1 hi hl hr (fun g' a' hI' hg' => ?_)
    dsimp only
    by_cases e : g' = 0
    · refine br_t e (nm_r (nI_1 r) ?_)
      refine k (g, a') ⟨hI', gr_gx_z hs.2 hg' e (fun ea q0 q1 q hq i hi' j hj => ?_)⟩
      subst ea
      by_cases eq : q = r
      · subst eq
        exact q1 i (by omega) j hj
      · exact q0 q (by omega) i hi' j hj
    · refine br_f e (nm_r (nI_1 r) ?_)
      exact k (1, a') ⟨hI', gr_gx_t hs.2 hg' e⟩
theorem gr_x_rules {post : SX → Prop} {a0 al ar tx : Nat → Int32} {c : Nat} {L R : Nat → Nat} {n : Nat} {t : Nat → Nat}
    {tl : Int32} (hG : gr_G c L R) (hn : n ≤ 8) (hI : gr_I c L R n t a0) (hl : gr_A al L c) (hr : gr_A ar R c)
    (H : ∀ a, gr_XS c L R n t a → post (nI c, tl, al, ar, tx, a)) :
    wpX_applyRules post (nI c, tl, al, ar, tx, a0) (nI n) := by
  unfold wpX_applyRules
  dsimp only
  refine loop_0 (fun m p (s : Int32 × (Nat → Int32)) => wX_applyRules_4 post (nI n) m s.1 (nI p) (nI c) tl al ar tx s.2)
    (fun p s => gr_I c L R n t s.2 ∧ gr_pp gr_cx p s.2 s.1 (gr_Cx c L R n s.2)) 226 (1, a0)
    ⟨hI, Or.inl ⟨rfl, Nat.zero_le _⟩⟩ ?_ ?_
  · intro m s hs
    obtain ⟨g, a⟩ := s
    dsimp only at hs ⊢
    refine br_t (nI_le (a := 226) (b := 226) (by omega) (by decide)) (H a ?_)
    rcases hs.2 with ⟨_, h2⟩ | ⟨_, h2⟩
    · have := gr_cx_b hG hs.1
      exact absurd h2 (by omega)
    · exact gr_XS_of hG hn hs.1 h2
  · intro m p s hi hs k
    obtain ⟨g, a⟩ := s
    dsimp only at hs ⊢
    refine br_f (nI_ge (b := 226) hi (by decide)) ?_
    rcases hs.2 with ⟨h1, h2⟩ | ⟨h1, h2⟩
    · refine br_f (by rw [h1]; decide) ?_
      exact gr_x_pass hG hn hs.1 hl hr (fun g' a' hI' hg' => k (g', a') ⟨hI', gr_pp_s h2 hg' (fun e q => by rw [e]; exact q)⟩)
    · exact br_t h1 (H a (gr_XS_of hG hn hs.1 h2))
/-! X: the text laid, and the whole -/
theorem gr_x_layLetter {post : SX → Prop} {a al ar tx : Nat → Int32} {rc tl : Int32} {l p : Nat} (hl : l < 8) (hp : p < 8)
    (h : post (rc, tl, al, ar, tx, upd a (9 * l + p) ((1 : Int32) <<< (nI (p + 1) &&& 31)))) :
    wpX_layLetter post (rc, tl, al, ar, tx, a) (nI l) (nI p) := by
  unfold wpX_layLetter
  dsimp only
  rw [gr_i9 l p, nI_1 p, nI_clamp (n := 9 * l + p) (by omega)]
  exact ⟨vp_in_nI (by omega) (by decide), nm_e h⟩
theorem gr_x_lay2 {post : SX → Prop} {a0 al ar tx : Nat → Int32} {rc : Int32} {n : Nat} {t : Nat → Nat} (ht : gr_tx n t) (hx : gr_A tx t n)
    (h0 : gr_La 0 t a0) (H : ∀ a, gr_La n t a → post (rc, nI n, al, ar, tx, a)) :
    ∃ m, wX_layText_23 post m 0 rc (nI n) al ar tx a0 := by
  have hn := ht.1
  refine loop_0 (fun m i (s : Nat → Int32) => wX_layText_23 post m (nI i) rc (nI n) al ar tx s) (fun i s => gr_La i t s) n a0 h0 ?_ ?_
  · intro m s hs
    exact br_t (nI_le (Nat.le_refl n) (by omega)) (H s hs)
  · intro m i s hi hs k
    have h7 := ht.2 i hi
    refine br_f (nI_ge hi (by omega)) ⟨vp_in_nI (by omega) (by decide), ?_⟩
    rw [nI_clamp (n := i) (by omega), hx i hi]
    refine gr_x_layLetter (by omega) (by omega) ?_
    dsimp only
    refine nm_r (nI_1 i) ?_
    exact k _ (gr_La_s hs (by omega) (by omega) (fun _ _ => rfl))
theorem gr_x_layText {post : SX → Prop} {a0 al ar tx : Nat → Int32} {rc : Int32} {n : Nat} {t : Nat → Nat} (ht : gr_tx n t) (hx : gr_A tx t n)
    (H : ∀ a, gr_La n t a → post (rc, nI n, al, ar, tx, a)) : wpX_layText post (rc, nI n, al, ar, tx, a0) := by
  unfold wpX_layText
  dsimp only
  refine loop_0 (fun m i (s : Nat → Int32) => wX_layText_2 post rc (nI n) m (nI i) al ar tx s) (fun i s => ∀ q, q < i → s q = 0) 72 a0
    (fun q hq => absurd hq (by omega)) ?_ ?_
  · intro m s hs
    exact br_t (nI_le (a := 72) (b := 72) (by omega) (by decide)) (gr_x_lay2 ht hx (gr_La_0 hs) H)
  · intro m i s hi hs k
    refine br_f (nI_ge (b := 72) hi (by decide)) ⟨vp_in_nI hi (by decide), ?_⟩
    rw [nI_clamp (n := i) (by omega)]
    refine nm_e (nm_r (nI_1 i) ?_)
    refine k _ (fun q hq => ?_)
    by_cases e : q = i
    · rw [e, pk_us]
    · rw [pk_un e]
      exact hs q (by omega)
theorem gr_x_find {post : SX → Prop} {a0 al ar tx : Nat → Int32} {c : Nat} {L R : Nat → Nat} {n : Nat} {t : Nat → Nat}
    (hG : gr_G c L R) (ht : gr_tx n t) (hl : gr_A al L c) (hr : gr_A ar R c) (hx : gr_A tx t n)
    (H : ∀ a, gr_XS c L R n t a → post (nI c, nI n, al, ar, tx, a)) : wpX_findReach post (nI c, nI n, al, ar, tx, a0) := by
  unfold wpX_findReach
  dsimp only
  refine gr_x_layText ht hx (fun a hLa => ?_)
  dsimp only
  exact gr_x_rules hG ht.1 (gr_La_I hLa (fun i hi => (ht.2 i hi).1)) hl hr H
theorem gr_x_bit {post : Int32 → Prop} {x : Int32} {e : Nat} (he : e < 32) (h : post (gr_vb (bt x e))) : wpX_bit post x (nI e) := by
  unfold wpX_bit
  rw [gr_bit x he]
  exact h
