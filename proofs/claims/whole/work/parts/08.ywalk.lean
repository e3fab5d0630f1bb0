/-! the reference: a sign, two signs, a row -/
theorem gr_y_sign {post : Int32 → Prop} {b bl br ty : Nat → Int32} {n : Nat} {t : Nat → Nat} {cn ln : Int32} (ht : gr_tx n t) (hy : gr_A ty t n)
    (hb : ∀ k, k < 405 → b k = 0 ∨ b k = 1) {s i j : Nat} (hs : s < 8) (hij : i ≤ j) (hj : j ≤ n)
    (h : post (gr_vb (gr_dc (gr_Sb n t b s i j)))) : wpY_signFits post (cn, ln, bl, br, ty, b) (nI s) (nI i) (nI j) := by
  have hn := ht.1
  unfold wpY_signFits
  dsimp only
  rw [gr_i81 s i j, nI_clamp (n := 81 * s + 9 * i + j) (by omega)]
  refine pk_le s 4 (fun h4 => ?_) (fun h4 => ?_)
  · have e : b (81 * s + 9 * i + j) = gr_vb (gr_dc (gr_Sb n t b s i j)) := by
      rcases hb (81 * s + 9 * i + j) (by omega) with e | e
      · rw [e, gr_dc_f]
        · rfl
        · intro g
          rcases g with ⟨_, g⟩ | ⟨g, _⟩
          · have g2 := g.2.2.2
            rw [e] at g2
            exact absurd g2 (by decide)
          · omega
      · rw [e, gr_dc_t]
        · rfl
        · exact Or.inl ⟨by omega, by omega, by omega, by omega, e⟩
    rw [e]
    exact ⟨vp_in_nI (by omega) (by decide), gr_nb _, h⟩
  · rw [nI_1 i]
    refine pk_eq j (i + 1) (fun e => ?_) (fun e => ?_)
    · refine pk_le 8 i (fun h8 => absurd h8 (by omega)) (fun h8 => ⟨vp_in_nI (by omega) (by decide), ?_⟩)
      have ht' := ht.2 i (by omega)
      rw [nI_clamp (n := i) (by omega), hy i (by omega)]
      refine pk_eq (t i) s (fun e2 => ?_) (fun e2 => ?_)
      · rw [gr_dc_t (show gr_Sb n t b s i j from Or.inr ⟨by omega, e, by omega, e2⟩)] at h
        exact h
      · rw [gr_dc_f] at h
        · exact h
        · intro g
          rcases g with ⟨g, _⟩ | ⟨_, _, _, g⟩
          · omega
          · exact e2 g
    · rw [gr_dc_f] at h
      · exact h
      · intro g
        rcases g with ⟨g, _⟩ | ⟨_, g, _⟩
        · omega
        · exact e g
theorem gr_y_two {post : Int32 → Prop} {b bl br ty : Nat → Int32} {n : Nat} {t : Nat → Nat} {cn ln : Int32} (ht : gr_tx n t) (hy : gr_A ty t n)
    (hb : ∀ k, k < 405 → b k = 0 ∨ b k = 1) {s1 s2 i j : Nat} (hs1 : s1 < 8) (hs2 : s2 < 8) (hij : i ≤ j) (hj : j ≤ n)
    (h : post (gr_vb (gr_dc (∃ m, i ≤ m ∧ m ≤ j ∧ gr_Sb n t b s1 i m ∧ gr_Sb n t b s2 m j)))) :
    wpY_twoFit post (cn, ln, bl, br, ty, b) (nI s1) (nI s2) (nI i) (nI j) := by
  have hn := ht.1
  unfold wpY_twoFit
  dsimp only
  refine pk_loop (fun m k (_ : Unit) => wY_twoFit_3 post (nI s1) (nI s2) (nI i) (nI j) cn ln bl br ty b m (nI k))
    (fun k _ => i ≤ k ∧ ∀ m, i ≤ m → m < k → ¬ (gr_Sb n t b s1 i m ∧ gr_Sb n t b s2 m j)) (j + 1) i () (by omega)
    ⟨Nat.le_refl i, fun m h1 h2 => absurd h2 (by omega)⟩ ?_ ?_
  · intro m _ hs
    refine br_t (nI_lt (by omega) (by omega)) ?_
    rw [gr_dc_f] at h
    · exact h
    · intro ⟨m, h1, h2, h3⟩
      exact hs.2 m h1 (by omega) h3
  · intro m k _ hk hs kk
    obtain ⟨ik, hs⟩ := hs
    have nx : ¬ (gr_Sb n t b s1 i k ∧ gr_Sb n t b s2 k j) →
        i ≤ k + 1 ∧ ∀ m, i ≤ m → m < k + 1 → ¬ (gr_Sb n t b s1 i m ∧ gr_Sb n t b s2 m j) := by
      intro hk2
      refine ⟨by omega, fun m h1 h2 => ?_⟩
      by_cases e : m = k
      · subst e
        exact hk2
      · exact hs m h1 (by omega)
    refine br_f (nI_nlt (by omega) (by omega)) ?_
    refine gr_y_sign ht hy hb hs1 ik (by omega) ?_
    by_cases e1 : gr_Sb n t b s1 i k
    · rw [gr_dc_t e1]
      refine br_f (by decide) ?_
      refine gr_y_sign ht hy hb hs2 (by omega) hj ?_
      by_cases e2 : gr_Sb n t b s2 k j
      · rw [gr_dc_t e2]
        refine br_f (by decide) ?_
        rw [gr_dc_t ⟨k, ik, by omega, e1, e2⟩] at h
        exact h
      · rw [gr_dc_f e2]
        exact br_t (by decide) (nm_r (nI_1 k) (kk () (nx (fun z => e2 z.2))))
    · rw [gr_dc_f e1]
      exact br_t (by decide) (nm_r (nI_1 k) (kk () (nx (fun z => e1 z.1))))
theorem gr_y_row3 {post : Int32 → Prop} {b bl br ty : Nat → Int32} {n : Nat} {t : Nat → Nat} {cn ln : Int32} (ht : gr_tx n t) (hy : gr_A ty t n)
    (hb : ∀ k, k < 405 → b k = 0 ∨ b k = 1) {s1 s2 s3 i j : Nat} (hs1 : s1 < 8) (hs2 : s2 < 8) (hs3 : s3 < 8) (hij : i ≤ j) (hj : j ≤ n)
    (h : post (gr_vb (gr_dc (∃ m, i ≤ m ∧ m ≤ j ∧ gr_Sb n t b s1 i m ∧
      ∃ k, m ≤ k ∧ k ≤ j ∧ gr_Sb n t b s2 m k ∧ gr_Sb n t b s3 k j)))) :
    ∃ m, wY_rowFits_77 post (nI i) (nI j) (nI s3) (nI s2) (nI s1) cn ln bl br ty b m (nI i) := by
  have hn := ht.1
  refine pk_loop (fun m k (_ : Unit) => wY_rowFits_77 post (nI i) (nI j) (nI s3) (nI s2) (nI s1) cn ln bl br ty b m (nI k))
    (fun k _ => i ≤ k ∧ ∀ m, i ≤ m → m < k → ¬ (gr_Sb n t b s1 i m ∧ ∃ k, m ≤ k ∧ k ≤ j ∧ gr_Sb n t b s2 m k ∧ gr_Sb n t b s3 k j))
    (j + 1) i () (by omega) ⟨Nat.le_refl i, fun m h1 h2 => absurd h2 (by omega)⟩ ?_ ?_
  · intro m _ hs
    refine br_t (nI_lt (by omega) (by omega)) ?_
    rw [gr_dc_f] at h
    · exact h
    · intro ⟨m, h1, h2, h3⟩
      exact hs.2 m h1 (by omega) h3
  · intro m k _ hk hs kk
    obtain ⟨ik, hs⟩ := hs
    have nx : ¬ (gr_Sb n t b s1 i k ∧ ∃ p, k ≤ p ∧ p ≤ j ∧ gr_Sb n t b s2 k p ∧ gr_Sb n t b s3 p j) →
        i ≤ k + 1 ∧ ∀ m, i ≤ m → m < k + 1 → ¬ (gr_Sb n t b s1 i m ∧ ∃ k, m ≤ k ∧ k ≤ j ∧ gr_Sb n t b s2 m k ∧ gr_Sb n t b s3 k j) := by
      intro hk2
      refine ⟨by omega, fun m h1 h2 => ?_⟩
      by_cases e : m = k
      · subst e
        exact hk2
      · exact hs m h1 (by omega)
    refine br_f (nI_nlt (by omega) (by omega)) ?_
    refine gr_y_sign ht hy hb hs1 ik (by omega) ?_
    by_cases e1 : gr_Sb n t b s1 i k
    · rw [gr_dc_t e1]
      refine br_f (by decide) ?_
      refine gr_y_two ht hy hb hs2 hs3 (by omega) hj ?_
      by_cases e2 : ∃ p, k ≤ p ∧ p ≤ j ∧ gr_Sb n t b s2 k p ∧ gr_Sb n t b s3 p j
      · rw [gr_dc_t e2]
        refine br_f (by decide) ?_
        rw [gr_dc_t ⟨k, ik, by omega, e1, e2⟩] at h
        exact h
      · rw [gr_dc_f e2]
        exact br_t (by decide) (nm_r (nI_1 k) (kk () (nx (fun z => e2 z.2))))
    · rw [gr_dc_f e1]
      exact br_t (by decide) (nm_r (nI_1 k) (kk () (nx (fun z => e1 z.1))))
theorem gr_y_row {post : Int32 → Prop} {b bl br ty : Nat → Int32} {n : Nat} {t : Nat → Nat} {cn ln : Int32} (ht : gr_tx n t) (hy : gr_A ty t n)
    (hb : ∀ k, k < 405 → b k = 0 ∨ b k = 1) (hS : ∀ s p j, p ≤ n → gr_Sb n t b s p j → p ≤ j ∧ j ≤ n)
    {r i j : Nat} (hg : gr_gd r) (hij : i ≤ j) (hj : j ≤ n)
    (h : post (gr_vb (gr_dc (gr_en (gr_Sb n t b) r i j)))) : wpY_rowFits post (cn, ln, bl, br, ty, b) (nI r) (nI i) (nI j) := by
  have hn := ht.1
  obtain ⟨hr, h9, h81⟩ := hg
  unfold wpY_rowFits
  dsimp only
  rw [gr_m9 hr, gr_dm9 hr, gr_d81 hr]
  refine pk_eq r 0 (fun e => ?_) (fun e => ⟨by decide, ?_⟩)
  · subst e
    rw [gr_dc_e gr_en0] at h
    refine pk_eq i j (fun e => ?_) (fun e => ?_)
    · rw [gr_dc_t e.symm] at h
      exact h
    · rw [gr_dc_f (fun z => e z.symm)] at h
      exact h
  · have k9 : 0 < r % 9 := by
      by_cases l : 9 ≤ r
      · have := h9 l
        omega
      · omega
    refine nm_r (gr_p1 k9) ?_
    refine pk_le 9 r (fun l9 => ⟨by decide, by decide, ?_⟩) (fun l9 => ?_)
    · have k99 : 0 < r / 9 % 9 := by
        by_cases l : 81 ≤ r
        · have := h81 l
          omega
        · omega
      refine nm_r (gr_p1 k99) ?_
      refine pk_le 81 r (fun l81 => ⟨by decide, ?_⟩) (fun l81 => ?_)
      · refine nm_r (gr_p1 (show 0 < r / 81 by omega)) ?_
        rw [gr_dc_e (gr_en3 l81 (by omega) (by omega) hn (by omega) hS)] at h
        exact gr_y_row3 ht hy hb (by omega) (by omega) (by omega) hij hj h
      · rw [gr_dc_e (gr_en2 l9 l81 (by omega) hn (by omega) hS)] at h
        exact gr_y_two ht hy hb (by omega) (by omega) hij hj ⟨gr_nb _, h⟩
    · rw [gr_dc_e (gr_en1 (show 0 < r by omega) l9 (by omega)), show r - 1 = r % 9 - 1 by omega] at h
      exact gr_y_sign ht hy hb (by omega) hij hj ⟨gr_nb _, h⟩
/-! the reference: one rule filled in, all rules, all rounds -/
theorem gr_y_fill1 {post : Int32 → SY → Prop} {J : Int32 → Int32 → (Nat → Int32) → (Nat → Int32) → (Nat → Int32) → (Nat → Int32) → Prop}
    {b0 b1 bl br ty : Nat → Int32} {c : Nat} {L R : Nat → Nat} {n : Nat} {t : Nat → Nat} {g1 : Int32} (hG : gr_G c L R) (ht : gr_tx n t)
    (hl : gr_A bl L c) (hr : gr_A br R c) (hy : gr_A ty t n) {q i : Nat} (hq : q < c) (hi : i ≤ n) (hJ1 : gr_J c L R n t b1)
    (hg1 : gr_gx gr_cy b0 b1 g1 (gr_Qy n t b0 (L q) (R q) i i))
    (H : ∀ g b, gr_J c L R n t b → gr_gx gr_cy b0 b g (gr_Qy n t b0 (L q) (R q) (i + 1) (i + 1)) → J g (nI (i + 1)) bl br ty b) :
    ∃ m, wY_fill_21 post J (nI q) (nI i) (nI c) (nI n) m g1 (nI i) bl br ty b1 := by
  have hn := ht.1
  have hc := hG.1
  have hL := gr_G_L hG q hq
  refine pk_loop (fun m j (s : Int32 × (Nat → Int32)) => wY_fill_21 post J (nI q) (nI i) (nI c) (nI n) m s.1 (nI j) bl br ty s.2)
    (fun j s => i ≤ j ∧ gr_J c L R n t s.2 ∧ gr_gx gr_cy b0 s.2 s.1 (gr_Qy n t b0 (L q) (R q) i j)) (n + 1) i (g1, b1) (by omega)
    ⟨Nat.le_refl i, hJ1, hg1⟩ ?_ ?_
  · intro m s hs
    obtain ⟨g, b⟩ := s
    dsimp only at hs ⊢
    obtain ⟨ij, hJ, hg⟩ := hs
    exact br_t (nI_lt (by omega) (by omega)) (nm_r (nI_1 i) (H g b hJ (gr_gx_k hg (fun _ z => gr_Qy_i z (by omega)))))
  · intro m j s hj hs k
    obtain ⟨g, b⟩ := s
    dsimp only at hs ⊢
    obtain ⟨ij, hJ, hg⟩ := hs
    refine br_f (nI_nlt (by omega) (by omega)) (br_f (nI_ge (b := 9) (by omega) (by decide)) ⟨vp_in_nI (by omega) (by decide), ?_⟩)
    rw [nI_clamp (n := q) (by omega), hl q hq, hr q hq]
    refine nm_r (gr_i81 (L q) i j) ?_
    rw [nI_clamp (n := 81 * L q + 9 * i + j) (by omega)]
    refine ⟨vp_in_nI (by omega) (by decide), ?_⟩
    rcases hJ.1 (81 * L q + 9 * i + j) (by omega) with e | e
    · refine br_t e ⟨vp_in_nI (by omega) (by decide), ?_⟩
      refine gr_y_row ht hy hJ.1 (gr_J_sup hG hJ) (hG.2 q hq).2 ij (by omega) ?_
      by_cases z : gr_en (gr_Sb n t b) (R q) i j
      · rw [gr_dc_t z]
        refine br_f (by decide) ⟨vp_in_nI (by omega) (by decide), nm_e (nm_r (nI_1 j) ?_)⟩
        exact k (1, upd b (81 * L q + 9 * i + j) 1) ⟨by omega, gr_J_st hG hn hJ hq hi (by omega) z, gr_gx_g hg (gr_cy_st (by omega) e)⟩
      · rw [gr_dc_f z]
        refine br_t (by decide) (nm_r (nI_1 j) ?_)
        refine k (g, b) ⟨by omega, hJ, gr_gx_k hg (fun eb y => gr_Qy_s y (fun w => ?_))⟩
        subst eb
        exact absurd w z
    · refine br_f (by rw [e]; decide) (nm_r (nI_1 j) ?_)
      refine k (g, b) ⟨by omega, hJ, gr_gx_k hg (fun eb y => gr_Qy_s y (fun w => ?_))⟩
      subst eb
      exact e
theorem gr_y_fill {post : Int32 → SY → Prop} {b0 bl br ty : Nat → Int32} {c : Nat} {L R : Nat → Nat} {n : Nat} {t : Nat → Nat}
    (hG : gr_G c L R) (ht : gr_tx n t) (hl : gr_A bl L c) (hr : gr_A br R c) (hy : gr_A ty t n) {q : Nat} (hq : q < c) (hJ0 : gr_J c L R n t b0)
    (H : ∀ g b, gr_J c L R n t b → gr_gx gr_cy b0 b g (∀ i, i ≤ n → ∀ j, i ≤ j → j ≤ n → gr_en (gr_Sb n t b0) (R q) i j →
      b0 (81 * L q + 9 * i + j) = 1) → post g (nI c, nI n, bl, br, ty, b)) :
    wpY_fill post (nI c, nI n, bl, br, ty, b0) (nI q) := by
  have hn := ht.1
  unfold wpY_fill
  dsimp only
  refine loop_0 (fun m i (s : Int32 × (Nat → Int32)) => wY_fill_4 post (nI q) (nI c) (nI n) m s.1 (nI i) bl br ty s.2)
    (fun i s => gr_J c L R n t s.2 ∧ gr_gx gr_cy b0 s.2 s.1 (gr_Qy n t b0 (L q) (R q) i i)) (n + 1) (0, b0) ⟨hJ0, gr_gx_i gr_Qy_0⟩ ?_ ?_
  · intro m s hs
    obtain ⟨g, b⟩ := s
    dsimp only at hs ⊢
    refine br_t (nI_lt (by omega) (by omega)) ⟨?_, H g b hs.1 (gr_gx_k hs.2 (fun _ z i hi j h1 h2 => z i j h1 h2 (by omega)))⟩
    rcases gr_gx_01 hs.2 with e | e <;> subst e <;> rfl
  · intro m i s hi hs k
    obtain ⟨g, b⟩ := s
    dsimp only at hs ⊢
    refine br_f (nI_nlt (by omega) (by omega)) (br_f (nI_ge (b := 9) (by omega) (by decide)) ?_)
    exact gr_y_fill1 hG ht hl hr hy hq (by omega) hs.1 hs.2 (fun g' b' h1 h2 => k (g', b') ⟨h1, h2⟩)
theorem gr_y_fillAll {post : Int32 → SY → Prop} {b0 bl br ty : Nat → Int32} {c : Nat} {L R : Nat → Nat} {n : Nat} {t : Nat → Nat}
    (hG : gr_G c L R) (ht : gr_tx n t) (hl : gr_A bl L c) (hr : gr_A br R c) (hy : gr_A ty t n) (hJ0 : gr_J c L R n t b0)
    (H : ∀ g b, gr_J c L R n t b → gr_gx gr_cy b0 b g (gr_Cy c L R n t b0) → post g (nI c, nI n, bl, br, ty, b)) :
    wpY_fillAll post (nI c, nI n, bl, br, ty, b0) := by
  have hn := ht.1
  have hc := hG.1
  unfold wpY_fillAll
  dsimp only
  refine loop_0 (fun m r (s : Int32 × (Nat → Int32)) => wY_fillAll_4 post m s.1 (nI r) (nI c) (nI n) bl br ty s.2)
    (fun r s => gr_J c L R n t s.2 ∧ gr_gx gr_cy b0 s.2 s.1 (gr_Cy r L R n t b0)) c (0, b0)
    ⟨hJ0, gr_gx_i (fun q hq => absurd hq (by omega))⟩ ?_ ?_
  · intro m s hs
    obtain ⟨g, b⟩ := s
    dsimp only at hs ⊢
    refine br_t (nI_le (Nat.le_refl c) (by omega)) ⟨?_, H g b hs.1 hs.2⟩
    rcases gr_gx_01 hs.2 with e | e <;> subst e <;> rfl
  · intro m r s hi hs k
    obtain ⟨g, b⟩ := s
    dsimp only at hs ⊢
    refine br_f (nI_ge hi (by omega)) (br_f (nI_ge (b := 12) (by omega) (by decide)) ?_)
    refine gr_y_fill hG ht hl hr hy hi hs.1 (fun g' b' hJ' hg' => ?_)
    dsimp only
    by_cases e : g' = 0
    · refine br_t e (nm_r (nI_1 r) ?_)
      refine k (g, b') ⟨hJ', gr_gx_z hs.2 hg' e (fun eb q0 q1 q hq i hi' j h1 h2 hj => ?_)⟩
      subst eb
      by_cases eq : q = r
      · subst eq
        exact q1 i hi' j h1 h2 hj
      · exact q0 q (by omega) i hi' j h1 h2 hj
    · refine br_f e (nm_r (nI_1 r) ?_)
      exact k (1, b') ⟨hJ', gr_gx_t hs.2 hg' e⟩
theorem gr_y_rounds {post : SY → Prop} {b0 bl br ty : Nat → Int32} {c : Nat} {L R : Nat → Nat} {n : Nat} {t : Nat → Nat}
    (hG : gr_G c L R) (ht : gr_tx n t) (hl : gr_A bl L c) (hr : gr_A br R c) (hy : gr_A ty t n) (hJ0 : gr_J c L R n t b0)
    (H : ∀ b, gr_YS c L R n t b → post (nI c, nI n, bl, br, ty, b)) :
    ∃ m, wY_work_26 post m 1 0 (nI c) (nI n) bl br ty b0 := by
  have hn := ht.1
  refine loop_0 (fun m p (s : Int32 × (Nat → Int32)) => wY_work_26 post m s.1 (nI p) (nI c) (nI n) bl br ty s.2)
    (fun p s => gr_J c L R n t s.2 ∧ gr_pp gr_cy p s.2 s.1 (gr_Cy c L R n t s.2)) 300 (1, b0) ⟨hJ0, Or.inl ⟨rfl, Nat.zero_le _⟩⟩ ?_ ?_
  · intro m s hs
    obtain ⟨g, b⟩ := s
    dsimp only at hs ⊢
    refine br_t (nI_le (a := 300) (b := 300) (by omega) (by decide)) (H b ?_)
    rcases hs.2 with ⟨_, h2⟩ | ⟨_, h2⟩
    · have := gr_cy_b hG hs.1
      exact absurd h2 (by omega)
    · exact gr_YS_of hG hn hs.1 h2
  · intro m p s hi hs k
    obtain ⟨g, b⟩ := s
    dsimp only at hs ⊢
    refine br_f (nI_ge (b := 300) hi (by decide)) ?_
    rcases hs.2 with ⟨h1, h2⟩ | ⟨h1, h2⟩
    · refine br_f (by rw [h1]; decide) ?_
      refine gr_y_fillAll hG ht hl hr hy hs.1 (fun g' b' hJ' hg' => ?_)
      dsimp only
      refine nm_r (nI_1 p) ?_
      exact k (g', b') ⟨hJ', gr_pp_s h2 hg' (fun e q => by rw [e]; exact q)⟩
    · exact br_t h1 (H b (gr_YS_of hG hn hs.1 h2))
theorem gr_y_work {post : SY → Prop} {b0 bl br ty : Nat → Int32} {c : Nat} {L R : Nat → Nat} {n : Nat} {t : Nat → Nat}
    (hG : gr_G c L R) (ht : gr_tx n t) (hl : gr_A bl L c) (hr : gr_A br R c) (hy : gr_A ty t n)
    (H : ∀ b, gr_YS c L R n t b → post (nI c, nI n, bl, br, ty, b)) : wpY_work post (nI c, nI n, bl, br, ty, b0) := by
  unfold wpY_work
  dsimp only
  refine loop_0 (fun m i (s : Nat → Int32) => wY_work_2 post (nI c) (nI n) m (nI i) bl br ty s) (fun i s => ∀ q, q < i → s q = 0) 405 b0
    (fun q hq => absurd hq (by omega)) ?_ ?_
  · intro m s hs
    exact br_t (nI_le (a := 405) (b := 405) (by omega) (by decide)) (gr_y_rounds hG ht hl hr hy (gr_J_0 hs) H)
  · intro m i s hi hs k
    refine br_f (nI_ge (b := 405) hi (by decide)) ⟨vp_in_nI hi (by decide), ?_⟩
    rw [nI_clamp (n := i) (by omega)]
    refine nm_e (nm_r (nI_1 i) ?_)
    refine k _ (fun q hq => ?_)
    by_cases e : q = i
    · rw [e, pk_us]
      rfl
    · rw [pk_un e]
      exact hs q (by omega)
/-! after the work: what a sign and a row answer -/
theorem gr_y_signS {post : Int32 → Prop} {b bl br ty : Nat → Int32} {c : Nat} {L R : Nat → Nat} {n : Nat} {t : Nat → Nat} {cn ln : Int32}
    (ht : gr_tx n t) (hy : gr_A ty t n) (hb : gr_YS c L R n t b) {s i j : Nat} (hs : s < 8) (hij : i ≤ j) (hj : j ≤ n)
    (h : post (gr_vb (gr_B c L R n t s i j))) : wpY_signFits post (cn, ln, bl, br, ty, b) (nI s) (nI i) (nI j) := by
  refine gr_y_sign ht hy hb.1 hs hij hj ?_
  rw [hb.2]
  exact h
theorem gr_y_rowS {post : Int32 → Prop} {b bl br ty : Nat → Int32} {c : Nat} {L R : Nat → Nat} {n : Nat} {t : Nat → Nat} {cn ln : Int32}
    (hG : gr_G c L R) (ht : gr_tx n t) (hy : gr_A ty t n) (hb : gr_YS c L R n t b) {r i j : Nat} (hg : gr_gd r) (hij : i ≤ j) (hj : j ≤ n)
    (h : post (gr_vb (gr_E c L R n t r i j))) : wpY_rowFits post (cn, ln, bl, br, ty, b) (nI r) (nI i) (nI j) := by
  refine gr_y_row ht hy hb.1 (by rw [hb.2]; exact gr_S_sup (gr_G_L hG)) hg hij hj ?_
  rw [hb.2]
  exact h
