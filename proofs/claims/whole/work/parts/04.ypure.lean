/-! the reference's table: a cell a sign, a first and a last place -/
def gr_Tb (b : Nat → Int32) : gr_T := fun s i j => s < 5 ∧ i < 9 ∧ j < 9 ∧ b (81 * s + 9 * i + j) = 1
def gr_Sb (n : Nat) (t : Nat → Nat) (b : Nat → Int32) : gr_T := gr_sg n t (gr_Tb b)
def gr_J (c : Nat) (L R : Nat → Nat) (n : Nat) (t : Nat → Nat) (b : Nat → Int32) : Prop :=
  (∀ k, k < 405 → b k = 0 ∨ b k = 1) ∧ (∀ s i j, gr_Tb b s i j → gr_LS c L R n t s i j)
theorem gr_J_sup {c : Nat} {L R : Nat → Nat} {n : Nat} {t : Nat → Nat} {b : Nat → Int32} (hG : gr_G c L R)
    (h : gr_J c L R n t b) (s p j : Nat) (hp : p ≤ n) (g : gr_Sb n t b s p j) : p ≤ j ∧ j ≤ n :=
  gr_sg_sup (fun s p j _ g => (gr_LS_sup (gr_G_L hG) (h.2 s p j g)).2) s p j hp g
theorem gr_J_S {c : Nat} {L R : Nat → Nat} {n : Nat} {t : Nat → Nat} {b : Nat → Int32}
    (h : gr_J c L R n t b) (s p j : Nat) (g : gr_Sb n t b s p j) : gr_S c L R n t s p j := gr_sg_mono h.2 s p j g
theorem gr_J_0 {c : Nat} {L R : Nat → Nat} {n : Nat} {t : Nat → Nat} {b : Nat → Int32} (h : ∀ k, k < 405 → b k = 0) :
    gr_J c L R n t b := by
  constructor
  · exact fun k hk => Or.inl (h k hk)
  · intro s i j ⟨h1, h2, h3, h4⟩
    rw [h (81 * s + 9 * i + j) (by omega)] at h4
    exact absurd h4 (by decide)
theorem gr_J_st {c : Nat} {L R : Nat → Nat} {n : Nat} {t : Nat → Nat} {b : Nat → Int32} (hG : gr_G c L R) (hn : n ≤ 8)
    (h : gr_J c L R n t b) {q : Nat} (hq : q < c) {i j : Nat} (hi : i ≤ n) (hj : j ≤ n) (g : gr_en (gr_Sb n t b) (R q) i j) :
    gr_J c L R n t (upd b (81 * L q + 9 * i + j) 1) := by
  have hL := gr_G_L hG q hq
  constructor
  · intro k hk
    by_cases e : k = 81 * L q + 9 * i + j
    · rw [e, pk_us]
      exact Or.inr rfl
    · rw [pk_un e]
      exact h.1 k hk
  · intro s p m ⟨h1, h2, h3, h4⟩
    by_cases e : 81 * s + 9 * p + m = 81 * L q + 9 * i + j
    · have e1 : s = L q := by omega
      have e2 : p = i := by omega
      have e3 : m = j := by omega
      subst e1 e2 e3
      exact gr_LS_cl (gr_G_R hG) q hq _ hi _ (gr_en_mono (gr_G_R hG q hq) (fun s p j _ _ k => gr_J_S h s p j k) _ g)
    · rw [pk_un e] at h4
      exact h.2 s p m ⟨h1, h2, h3, h4⟩
def gr_cy (b : Nat → Int32) : Nat := gr_cn (fun k => decide (b k = 1)) 405
theorem gr_cy_b {c : Nat} {L R : Nat → Nat} {n : Nat} {t : Nat → Nat} {b : Nat → Int32} (hG : gr_G c L R)
    (h : gr_J c L R n t b) : gr_cy b ≤ 225 := by
  refine gr_cn_b (fun k hk hb => ?_)
  have hb2 : b k = 1 := of_decide_eq_true hb
  have e : k = 81 * (k / 81) + 9 * (k / 9 % 9) + k % 9 := by omega
  rw [e] at hb2
  exact (gr_LS_sup (gr_G_L hG) (h.2 (k / 81) (k / 9 % 9) (k % 9) ⟨by omega, by omega, by omega, hb2⟩)).2.1
theorem gr_cy_st {b : Nat → Int32} {k : Nat} (hk : k < 405) (h0 : b k = 0) : gr_cy b < gr_cy (upd b k 1) := by
  refine gr_cn_lt 405 (fun m hm hb => ?_) ⟨k, hk, ?_, ?_⟩
  · have hb2 : b m = 1 := of_decide_eq_true hb
    refine decide_eq_true ?_
    by_cases e : m = k
    · rw [e, pk_us]
    · rw [pk_un e]
      exact hb2
  · refine decide_eq_false ?_
    rw [h0]
    decide
  · refine decide_eq_true ?_
    rw [pk_us]
def gr_Cy (c : Nat) (L R : Nat → Nat) (n : Nat) (t : Nat → Nat) (b : Nat → Int32) : Prop :=
  ∀ q, q < c → ∀ i, i ≤ n → ∀ j, i ≤ j → j ≤ n → gr_en (gr_Sb n t b) (R q) i j → b (81 * L q + 9 * i + j) = 1
theorem gr_Y_seal {c : Nat} {L R : Nat → Nat} {n : Nat} {t : Nat → Nat} {b : Nat → Int32} (hG : gr_G c L R) (hn : n ≤ 8)
    (h : gr_J c L R n t b) (hc : gr_Cy c L R n t b) : gr_Sb n t b = gr_S c L R n t := by
  funext s i j
  refine propext ⟨gr_J_S h s i j, fun g => ?_⟩
  rcases g with ⟨h5, g⟩ | g
  · refine Or.inl ⟨h5, g (gr_Tb b) ?_⟩
    intro q hq i hi j k
    have hs := gr_en_sup hi (gr_J_sup hG h) j k
    exact ⟨gr_G_L hG q hq, by omega, by omega, hc q hq i hi j hs.1 hs.2 k⟩
  · exact Or.inr g
/-- the reference's table tells the truth -/
def gr_YS (c : Nat) (L R : Nat → Nat) (n : Nat) (t : Nat → Nat) (b : Nat → Int32) : Prop :=
  (∀ k, k < 405 → b k = 0 ∨ b k = 1) ∧ gr_Sb n t b = gr_S c L R n t
theorem gr_YS_of {c : Nat} {L R : Nat → Nat} {n : Nat} {t : Nat → Nat} {b : Nat → Int32} (hG : gr_G c L R) (hn : n ≤ 8)
    (h : gr_J c L R n t b) (hc : gr_Cy c L R n t b) : gr_YS c L R n t b := ⟨h.1, gr_Y_seal hG hn h hc⟩
/-! both sides' fields against the pictures -/
def gr_A (a : Nat → Int32) (f : Nat → Nat) (m : Nat) : Prop := ∀ q, q < m → a q = nI (f q)
def gr_up (f : Nat → Nat) (k x : Nat) : Nat → Nat := fun j => if j = k then x else f j
theorem gr_up_s {f : Nat → Nat} {k x : Nat} : gr_up f k x k = x := if_pos rfl
theorem gr_up_n {f : Nat → Nat} {k x j : Nat} (h : j ≠ k) : gr_up f k x j = f j := if_neg h
theorem gr_A_up {a : Nat → Int32} {f : Nat → Nat} {m x : Nat} (h : gr_A a f m) : gr_A (upd a m (nI x)) (gr_up f m x) (m + 1) := by
  intro q hq
  by_cases e : q = m
  · rw [e, pk_us, gr_up_s]
  · rw [pk_un e, gr_up_n e]
    exact h q (by omega)
theorem gr_A_le {a : Nat → Int32} {f : Nat → Nat} {m m' : Nat} (h : gr_A a f m) (hm : m' ≤ m) : gr_A a f m' :=
  fun q hq => h q (by omega)
def gr_tx (n : Nat) (t : Nat → Nat) : Prop := n ≤ 8 ∧ ∀ i, i < n → 5 ≤ t i ∧ t i ≤ 7
theorem gr_tx_up {n : Nat} {t : Nat → Nat} {x : Nat} (h : gr_tx n t) (hn : n < 8) (h5 : 5 ≤ x) (h7 : x ≤ 7) :
    gr_tx (n + 1) (gr_up t n x) := by
  refine ⟨by omega, fun i hi => ?_⟩
  by_cases e : i = n
  · rw [e, gr_up_s]
    exact ⟨h5, h7⟩
  · rw [gr_up_n e]
    exact h.2 i (by omega)
theorem gr_G_up {c : Nat} {L R : Nat → Nat} {l r : Nat} (h : gr_G c L R) (hc : c < 12) (hl : l < 5) (hr : gr_gd r) :
    gr_G (c + 1) (gr_up L c l) (gr_up R c r) := by
  refine ⟨by omega, fun q hq => ?_⟩
  by_cases e : q = c
  · rw [e, gr_up_s, gr_up_s]
    exact ⟨hl, hr⟩
  · rw [gr_up_n e, gr_up_n e]
    exact h.2 q (by omega)
/-! dropping a rule: all behind it move down -/
def gr_dn (f : Nat → Nat) (k : Nat) : Nat → Nat := fun q => if q < k then f q else f (q + 1)
theorem gr_G_dn {c : Nat} {L R : Nat → Nat} {k : Nat} (h : gr_G c L R) (hk : k < c) : gr_G (c - 1) (gr_dn L k) (gr_dn R k) := by
  refine ⟨by have := h.1; omega, fun q hq => ?_⟩
  unfold gr_dn
  by_cases e : q < k
  · rw [if_pos e, if_pos e]
    exact h.2 q (by omega)
  · rw [if_neg e, if_neg e]
    exact h.2 (q + 1) (by omega)
def gr_sh (a0 : Nat → Int32) (k r : Nat) : Nat → Int32 := fun q => if k ≤ q ∧ q < r then a0 (q + 1) else a0 q
theorem gr_sh_0 (a0 : Nat → Int32) (k : Nat) : gr_sh a0 k k = a0 := by
  funext q
  exact if_neg (by omega)
theorem gr_sh_s (a0 : Nat → Int32) {k r : Nat} (h : k ≤ r) : upd (gr_sh a0 k r) r (gr_sh a0 k r (r + 1)) = gr_sh a0 k (r + 1) := by
  funext q
  by_cases e : q = r
  · rw [e, pk_us]
    unfold gr_sh
    rw [if_neg (by omega), if_pos (by omega)]
  · rw [pk_un e]
    unfold gr_sh
    by_cases g : k ≤ q ∧ q < r
    · rw [if_pos g, if_pos (by omega)]
    · rw [if_neg g, if_neg (by omega)]
theorem gr_A_sh {a0 : Nat → Int32} {f : Nat → Nat} {c k : Nat} (h : gr_A a0 f c) (hk : k < c) :
    gr_A (gr_sh a0 k (c - 1)) (gr_dn f k) (c - 1) := by
  intro q hq
  unfold gr_sh gr_dn
  by_cases e : q < k
  · rw [if_neg (by omega), if_pos e]
    exact h q (by omega)
  · rw [if_pos (by omega), if_neg e]
    exact h (q + 1) (by omega)
/-! writing a text: the digits from the last place down -/
def gr_lay : Nat → Nat → (Nat → Int32) → (Nat → Int32)
  | 0, _, a => a
  | p + 1, w, a => gr_lay p (w / 3) (upd a p (nI (5 + w % 3)))
def gr_dg : Nat → Nat → Nat → Nat
  | 0, _, _ => 5
  | p + 1, w, i => if i = p then 5 + w % 3 else gr_dg p (w / 3) i
theorem gr_dg_in : ∀ p w i, 5 ≤ gr_dg p w i ∧ gr_dg p w i ≤ 7 := by
  intro p
  induction p with
  | zero => exact fun _ _ => ⟨Nat.le_refl 5, by show 5 ≤ 7; omega⟩
  | succ p ih =>
    intro w i
    show 5 ≤ (if i = p then 5 + w % 3 else gr_dg p (w / 3) i) ∧ (if i = p then 5 + w % 3 else gr_dg p (w / 3) i) ≤ 7
    by_cases e : i = p
    · rw [if_pos e]
      omega
    · rw [if_neg e]
      exact ih (w / 3) i
theorem gr_lay_hi : ∀ p w a i, p ≤ i → gr_lay p w a i = a i := by
  intro p
  induction p with
  | zero => exact fun _ _ _ _ => rfl
  | succ p ih =>
    intro w a i hi
    show gr_lay p (w / 3) (upd a p (nI (5 + w % 3))) i = a i
    rw [ih _ _ _ (by omega), pk_un (by omega)]
theorem gr_lay_lo : ∀ p w a, gr_A (gr_lay p w a) (gr_dg p w) p := by
  intro p
  induction p with
  | zero => exact fun _ _ i hi => absurd hi (by omega)
  | succ p ih =>
    intro w a i hi
    show gr_lay p (w / 3) (upd a p (nI (5 + w % 3))) i = nI (if i = p then 5 + w % 3 else gr_dg p (w / 3) i)
    by_cases e : i = p
    · rw [if_pos e, e, gr_lay_hi _ _ _ _ (Nat.le_refl p), pk_us]
    · rw [if_neg e]
      exact ih _ _ i (by omega)
theorem gr_tx_dg {p w : Nat} (hp : p ≤ 8) : gr_tx p (gr_dg p w) := ⟨hp, fun i _ => gr_dg_in p w i⟩
