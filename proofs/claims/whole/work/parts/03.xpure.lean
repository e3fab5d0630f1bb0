/-! truth values -/
def gr_vb (b : Bool) : Int32 := if b = true then 1 else 0
noncomputable def gr_dc (P : Prop) : Bool := @decide P (Classical.propDecidable P)
theorem gr_dc_iff {P : Prop} : gr_dc P = true ↔ P := @decide_eq_true_iff P (Classical.propDecidable P)
theorem gr_dc_t {P : Prop} (h : P) : gr_dc P = true := gr_dc_iff.mpr h
theorem gr_dc_f {P : Prop} (h : ¬ P) : gr_dc P = false := by
  cases e : gr_dc P
  · rfl
  · exact absurd (gr_dc_iff.mp e) h
theorem gr_dc_e {P Q : Prop} (h : P ↔ Q) : gr_dc P = gr_dc Q := by rw [propext h]
theorem gr_dc_b {b : Bool} {P : Prop} (h : b = true ↔ P) : b = gr_dc P := by
  cases b
  · exact (gr_dc_f (fun p => Bool.noConfusion (h.mpr p))).symm
  · exact (gr_dc_t (h.mp rfl)).symm
theorem gr_nt {b : Bool} (h : ¬ b = true) : b = false := by
  cases b
  · rfl
  · exact absurd rfl h
theorem gr_vb_t {b : Bool} (h : b = true) : gr_vb b = 1 := if_pos h
theorem gr_vb_f {b : Bool} (h : ¬ b = true) : gr_vb b = 0 := if_neg h
theorem gr_vb_01 (b : Bool) : gr_vb b = 0 ∨ gr_vb b = 1 := by
  cases b
  · exact Or.inl rfl
  · exact Or.inr rfl
theorem gr_vb_1 {b : Bool} : gr_vb b = 1 ↔ b = true := by cases b <;> decide
theorem gr_vb_0 {b : Bool} : gr_vb b = 0 ↔ b = false := by cases b <;> decide
/-! one bit of a set -/
theorem gr_b1k : ∀ i, i < 32 → ∀ j, j < 32 → bt ((1 : Int32) <<< (nI i &&& 31)) j = decide (j = i) := by decide +kernel
theorem gr_b1 {i : Nat} (hi : i < 32) (j : Nat) : bt ((1 : Int32) <<< (nI i &&& 31)) j = decide (j = i) := by
  rcases Nat.lt_or_ge j 32 with h | h
  · exact gr_b1k i hi j h
  · rw [b_big h, decide_eq_false (by omega)]
theorem gr_b1v (j : Nat) : bt 1 j = decide (j = 0) := by
  rcases Nat.lt_or_ge j 32 with h | h
  · exact (by decide +kernel : ∀ j, j < 32 → bt 1 j = decide (j = 0)) j h
  · rw [b_big h, decide_eq_false (by omega)]
theorem gr_bit (x : Int32) {e : Nat} (he : e < 32) : (x >>> (nI e &&& 31)) &&& 1 = gr_vb (bt x e) := by
  apply b_ext
  intro i hi
  rw [b_and, b_sshr e he x hi, gr_b1v]
  by_cases h : i = 0
  · subst h
    rw [if_pos (show e + 0 < 32 by omega), Nat.add_zero]
    cases bt x e <;> decide
  · rw [decide_eq_false h, Bool.and_false]
    cases bt x e
    · exact (b_0 i).symm
    · show false = bt 1 i
      rw [gr_b1v, decide_eq_false h]
/-! X's sets, followed -/
def gr_X (a : Nat → Int32) : gr_T := fun s i j => bt (a (9 * s + i)) j = true
def gr_for (a : Nat → Int32) (d : Nat) (b : Int32) : Nat → Int32
  | 0 => 0
  | k + 1 => if bt b k = true then gr_for a d b k ||| a (9 * (d - 1) + k) else gr_for a d b k
def gr_fol (a : Nat → Int32) (d : Nat) (b : Int32) : Int32 := if d = 0 then b else gr_for a d b 9
def gr_eor (a : Nat → Int32) (r i : Nat) : Int32 :=
  gr_fol a (r % 9) (gr_fol a (r / 9 % 9) (gr_fol a (r / 81) ((1 : Int32) <<< (nI i &&& 31))))
theorem gr_for_b (a : Nat → Int32) (d : Nat) (b : Int32) : ∀ k j, bt (gr_for a d b k) j = true ↔
    ∃ p, p < k ∧ bt b p = true ∧ bt (a (9 * (d - 1) + p)) j = true := by
  intro k
  induction k with
  | zero =>
    intro j
    constructor
    · intro h
      have h2 : bt 0 j = true := h
      rw [b_0] at h2
      exact Bool.noConfusion h2
    · intro ⟨p, hp, _⟩
      exact absurd hp (by omega)
  | succ k ih =>
    intro j
    show bt (if bt b k = true then gr_for a d b k ||| a (9 * (d - 1) + k) else gr_for a d b k) j = true ↔ _
    by_cases hb : bt b k = true
    · rw [if_pos hb, b_or, Bool.or_eq_true, ih j]
      constructor
      · intro h
        rcases h with ⟨p, h1, h2, h3⟩ | h
        · exact ⟨p, by omega, h2, h3⟩
        · exact ⟨k, by omega, hb, h⟩
      · intro ⟨p, h1, h2, h3⟩
        by_cases e : p = k
        · subst e
          exact Or.inr h3
        · exact Or.inl ⟨p, by omega, h2, h3⟩
    · rw [if_neg hb, ih j]
      constructor
      · intro ⟨p, h1, h2, h3⟩
        exact ⟨p, by omega, h2, h3⟩
      · intro ⟨p, h1, h2, h3⟩
        by_cases e : p = k
        · subst e
          exact absurd h2 hb
        · exact ⟨p, by omega, h2, h3⟩
theorem gr_fol_b (a : Nat → Int32) (d : Nat) (b : Int32) (j : Nat) : bt (gr_fol a d b) j = true ↔
    gr_fo (gr_X a) d (fun p => bt b p = true) j := by
  unfold gr_fol
  by_cases hd : d = 0
  · rw [if_pos hd, hd, gr_fo_0]
  · rw [if_neg hd, gr_for_b, gr_fo_p (by omega)]
    exact Iff.rfl
theorem gr_eor_b (a : Nat → Int32) (r : Nat) {i : Nat} (hi : i < 32) (j : Nat) :
    bt (gr_eor a r i) j = true ↔ gr_en (gr_X a) r i j := by
  have e0 : (fun p => bt ((1 : Int32) <<< (nI i &&& 31)) p = true) = (fun p => p = i) :=
    funext fun p => by rw [gr_b1 hi p, decide_eq_true_eq]
  have e1 : (fun p => bt (gr_fol a (r / 81) ((1 : Int32) <<< (nI i &&& 31))) p = true) =
      gr_fo (gr_X a) (r / 81) (fun p => p = i) := funext fun p => propext (by rw [gr_fol_b, e0])
  have e2 : (fun p => bt (gr_fol a (r / 9 % 9) (gr_fol a (r / 81) ((1 : Int32) <<< (nI i &&& 31)))) p = true) =
      gr_fo (gr_X a) (r / 9 % 9) (gr_fo (gr_X a) (r / 81) (fun p => p = i)) :=
    funext fun p => propext (by rw [gr_fol_b, e1])
  unfold gr_eor gr_en
  rw [gr_fol_b, e2]
/-! good grammars; what holds of X's sets while they grow -/
def gr_gd (r : Nat) : Prop := r < 729 ∧ (9 ≤ r → r % 9 ≠ 0) ∧ (81 ≤ r → r / 9 % 9 ≠ 0)
def gr_G (c : Nat) (L R : Nat → Nat) : Prop := c ≤ 12 ∧ ∀ q, q < c → L q < 5 ∧ gr_gd (R q)
theorem gr_G_L {c : Nat} {L R : Nat → Nat} (h : gr_G c L R) : ∀ q, q < c → L q < 5 := fun q hq => (h.2 q hq).1
theorem gr_G_R {c : Nat} {L R : Nat → Nat} (h : gr_G c L R) : ∀ q, q < c → R q < 729 := fun q hq => (h.2 q hq).2.1
def gr_I (c : Nat) (L R : Nat → Nat) (n : Nat) (t : Nat → Nat) (a : Nat → Int32) : Prop :=
  (∀ s, s < 5 → ∀ i, i < 9 → ∀ j, bt (a (9 * s + i)) j = true → gr_LS c L R n t s i j) ∧
  (∀ s, 5 ≤ s → s < 8 → ∀ i, i < 9 → ∀ j, bt (a (9 * s + i)) j = true ↔ (j = i + 1 ∧ i < n ∧ t i = s))
theorem gr_I_S {c : Nat} {L R : Nat → Nat} {n : Nat} {t : Nat → Nat} {a : Nat → Int32} (h : gr_I c L R n t a)
    (s p j : Nat) (hs : s < 8) (hp : p < 9) (g : gr_X a s p j) : gr_S c L R n t s p j := by
  by_cases h5 : s < 5
  · exact Or.inl ⟨h5, h.1 s h5 p hp j g⟩
  · exact Or.inr ⟨by omega, (h.2 s (by omega) hs p hp j).mp g⟩
def gr_st (a : Nat → Int32) (l r i : Nat) : Nat → Int32 := upd a (9 * l + i) (a (9 * l + i) ||| gr_eor a r i)
theorem gr_I_st {c : Nat} {L R : Nat → Nat} {n : Nat} {t : Nat → Nat} {a : Nat → Int32} (hG : gr_G c L R) (hn : n ≤ 8)
    (h : gr_I c L R n t a) {q : Nat} (hq : q < c) {i : Nat} (hi : i ≤ n) : gr_I c L R n t (gr_st a (L q) (R q) i) := by
  have hL := gr_G_L hG q hq
  constructor
  · intro s hs p hp j hb
    by_cases e : 9 * s + p = 9 * L q + i
    · have e1 : s = L q := by omega
      have e2 : p = i := by omega
      subst e1 e2
      unfold gr_st at hb
      rw [pk_us, b_or, Bool.or_eq_true] at hb
      rcases hb with hb | hb
      · exact h.1 _ hs _ hp j hb
      · rw [gr_eor_b a (R q) (by omega)] at hb
        exact gr_LS_cl (gr_G_R hG) q hq _ hi j (gr_en_mono (gr_G_R hG q hq) (gr_I_S h) j hb)
    · unfold gr_st at hb
      rw [pk_un e] at hb
      exact h.1 s hs p hp j hb
  · intro s hs hs8 p hp j
    unfold gr_st
    rw [pk_un (show 9 * s + p ≠ 9 * L q + i by omega)]
    exact h.2 s hs hs8 p hp j
/-! how many there are -/
def gr_cx (a : Nat → Int32) : Nat := gr_cn (fun k => bt (a (k / 9)) (k % 9)) 405
theorem gr_cx_b {c : Nat} {L R : Nat → Nat} {n : Nat} {t : Nat → Nat} {a : Nat → Int32} (hG : gr_G c L R)
    (h : gr_I c L R n t a) : gr_cx a ≤ 225 := by
  refine gr_cn_b (fun k hk hb => ?_)
  have hb2 : bt (a (k / 9)) (k % 9) = true := hb
  have e : k / 9 = 9 * (k / 81) + k / 9 % 9 := by omega
  rw [e] at hb2
  exact (gr_LS_sup (gr_G_L hG) (h.1 (k / 81) (by omega) (k / 9 % 9) (by omega) (k % 9) hb2)).2.1
theorem gr_cx_st {c : Nat} {L R : Nat → Nat} {n : Nat} {t : Nat → Nat} {a : Nat → Int32} (hG : gr_G c L R) (hn : n ≤ 8)
    (h : gr_I c L R n t a) {q : Nat} (hq : q < c) {i : Nat} (hi : i ≤ n)
    (hne : a (9 * L q + i) ||| gr_eor a (R q) i ≠ a (9 * L q + i)) : gr_cx a < gr_cx (gr_st a (L q) (R q) i) := by
  have hL := gr_G_L hG q hq
  have h2 := gr_I_st hG hn h hq hi
  refine gr_cn_lt 405 (fun k hk hb => ?_) ?_
  · have hb2 : bt (a (k / 9)) (k % 9) = true := hb
    show bt (gr_st a (L q) (R q) i (k / 9)) (k % 9) = true
    unfold gr_st
    by_cases e : k / 9 = 9 * L q + i
    · rw [e] at hb2 ⊢
      rw [pk_us, b_or, hb2, Bool.true_or]
    · rw [pk_un e]
      exact hb2
  · apply Classical.byContradiction
    intro hno
    apply hne
    apply b_ext
    intro j hj
    cases e0 : bt (a (9 * L q + i)) j
    · cases e1 : bt (a (9 * L q + i) ||| gr_eor a (R q) i) j
      · rfl
      · exfalso
        have e2 : bt (gr_st a (L q) (R q) i (9 * L q + i)) j = true := by
          unfold gr_st
          rw [pk_us]
          exact e1
        have hs := gr_LS_sup (gr_G_L hG) (h2.1 (L q) hL i (by omega) j e2)
        have k1 : (9 * (9 * L q + i) + j) / 9 = 9 * L q + i := by omega
        have k2 : (9 * (9 * L q + i) + j) % 9 = j := by omega
        refine hno ⟨9 * (9 * L q + i) + j, by omega, ?_, ?_⟩
        · show bt (a ((9 * (9 * L q + i) + j) / 9)) ((9 * (9 * L q + i) + j) % 9) = false
          rw [k1, k2]
          exact e0
        · show bt (gr_st a (L q) (R q) i ((9 * (9 * L q + i) + j) / 9)) ((9 * (9 * L q + i) + j) % 9) = true
          rw [k1, k2]
          exact e2
    · rw [b_or, e0, Bool.true_or]
theorem gr_upd_id {a : Nat → Int32} {k : Nat} {x : Int32} (h : x = a k) : upd a k x = a := by
  funext j
  by_cases e : j = k
  · rw [e, pk_us, h]
  · rw [pk_un e]
theorem gr_or_id {x y : Int32} (h : x ||| y = x) (j : Nat) (hj : bt y j = true) : bt x j = true := by
  rw [← h, b_or, hj, Bool.or_true]
/-! progress: something came new and the count grew, or nothing did and Q was seen -/
def gr_gx (cx : (Nat → Int32) → Nat) (a0 a : Nat → Int32) (g : Int32) (Q : Prop) : Prop :=
  (g = 1 ∧ cx a0 < cx a) ∨ (g = 0 ∧ a = a0 ∧ Q)
/-! closed, and sealed -/
def gr_Cx (c : Nat) (L R : Nat → Nat) (n : Nat) (a : Nat → Int32) : Prop :=
  ∀ q, q < c → ∀ i, i ≤ n → ∀ j, gr_en (gr_X a) (R q) i j → bt (a (9 * L q + i)) j = true
theorem gr_X_seal {c : Nat} {L R : Nat → Nat} {n : Nat} {t : Nat → Nat} {a : Nat → Int32} (hG : gr_G c L R) (hn : n ≤ 8)
    (h : gr_I c L R n t a) (hc : gr_Cx c L R n a) {s : Nat} (hs : s < 8) {i : Nat} (hi : i < 9) (j : Nat) :
    bt (a (9 * s + i)) j = true ↔ gr_S c L R n t s i j := by
  constructor
  · exact gr_I_S h s i j hs hi
  · intro g
    rcases g with ⟨h5, g⟩ | ⟨h5, g⟩
    · refine (g (fun s i j => s < 5 ∧ i < 9 ∧ bt (a (9 * s + i)) j = true) ?_).2.2
      intro q hq i hi j k
      refine ⟨gr_G_L hG q hq, by omega, hc q hq i hi j (gr_en_mono (gr_G_R hG q hq) ?_ j k)⟩
      intro s p j hs hp m
      rcases m with ⟨_, _, _, m⟩ | ⟨m5, m⟩
      · exact m
      · exact (h.2 s m5 hs p hp j).mpr m
    · exact (h.2 s h5 hs i hi j).mpr g
noncomputable def gr_B (c : Nat) (L R : Nat → Nat) (n : Nat) (t : Nat → Nat) (s i j : Nat) : Bool := gr_dc (gr_S c L R n t s i j)
noncomputable def gr_E (c : Nat) (L R : Nat → Nat) (n : Nat) (t : Nat → Nat) (r i j : Nat) : Bool :=
  gr_dc (gr_en (gr_S c L R n t) r i j)
/-- X's sets tell the truth -/
def gr_XS (c : Nat) (L R : Nat → Nat) (n : Nat) (t : Nat → Nat) (a : Nat → Int32) : Prop :=
  ∀ s, s < 8 → ∀ i, i < 9 → ∀ j, bt (a (9 * s + i)) j = gr_B c L R n t s i j
theorem gr_XS_of {c : Nat} {L R : Nat → Nat} {n : Nat} {t : Nat → Nat} {a : Nat → Int32} (hG : gr_G c L R) (hn : n ≤ 8)
    (h : gr_I c L R n t a) (hc : gr_Cx c L R n a) : gr_XS c L R n t a :=
  fun _ hs _ hi j => gr_dc_b (gr_X_seal hG hn h hc hs hi j)
theorem gr_XS_e {c : Nat} {L R : Nat → Nat} {n : Nat} {t : Nat → Nat} {a : Nat → Int32} (h : gr_XS c L R n t a)
    {r : Nat} (hr : r < 729) {i : Nat} (hi : i < 9) (j : Nat) : bt (gr_eor a r i) j = gr_E c L R n t r i j := by
  refine gr_dc_b ?_
  rw [gr_eor_b a r (by omega)]
  constructor
  · exact gr_en_mono hr (fun s p j hs hp g => gr_dc_iff.mp ((h s hs p hp j).symm.trans g)) j
  · exact gr_en_mono hr (fun s p j hs hp g => (h s hs p hp j).trans (gr_dc_t g)) j
/-! the text laid -/
def gr_La (m : Nat) (t : Nat → Nat) (a : Nat → Int32) : Prop :=
  ∀ s, s < 8 → ∀ i, i < 9 → ∀ j, bt (a (9 * s + i)) j = true ↔ (j = i + 1 ∧ i < m ∧ t i = s)
theorem gr_La_0 {t : Nat → Nat} {a : Nat → Int32} (h : ∀ k, k < 72 → a k = 0) : gr_La 0 t a := by
  intro s hs i hi j
  rw [h (9 * s + i) (by omega), b_0]
  constructor
  · intro z
    exact Bool.noConfusion z
  · intro z
    exact absurd z.2.1 (by omega)
theorem gr_La_s {m : Nat} {t t' : Nat → Nat} {a : Nat → Int32} (h : gr_La m t a) (hm : m < 8) (ht : t' m < 8)
    (hb : ∀ i, i < m → t' i = t i) : gr_La (m + 1) t' (upd a (9 * t' m + m) ((1 : Int32) <<< (nI (m + 1) &&& 31))) := by
  intro s hs i hi j
  by_cases e : 9 * s + i = 9 * t' m + m
  · have e1 : s = t' m := by omega
    have e2 : i = m := by omega
    subst e1 e2
    rw [pk_us, gr_b1 (by omega), decide_eq_true_eq]
    constructor
    · intro z
      exact ⟨z, by omega, rfl⟩
    · intro z
      exact z.1
  · rw [pk_un e, h s hs i hi j]
    constructor
    · intro z
      exact ⟨z.1, by omega, by rw [hb i z.2.1]; exact z.2.2⟩
    · intro z
      have hne : i ≠ m := by
        intro ei
        subst ei
        exact e (by rw [z.2.2])
      have hlt : i < m := by omega
      exact ⟨z.1, hlt, by rw [← hb i hlt]; exact z.2.2⟩
theorem gr_La_I {c : Nat} {L R : Nat → Nat} {n : Nat} {t : Nat → Nat} {a : Nat → Int32} (h : gr_La n t a)
    (ht : ∀ i, i < n → 5 ≤ t i) : gr_I c L R n t a := by
  constructor
  · intro s hs i hi j g
    have k := (h s (by omega) i hi j).mp g
    have := ht i k.2.1
    exact absurd k.2.2 (by omega)
  · intro s _ hs i hi j
    exact h s hs i hi j
