/-! a table of fits: sign, first place, last place; the letters of a text; a digit followed; a row of three digits -/
abbrev gr_T : Type := Nat → Nat → Nat → Prop
def gr_sg (n : Nat) (t : Nat → Nat) (T : gr_T) : gr_T := fun s i j =>
  (s < 5 ∧ T s i j) ∨ (5 ≤ s ∧ j = i + 1 ∧ i < n ∧ t i = s)
def gr_fo (S : gr_T) (d : Nat) (B : Nat → Prop) : Nat → Prop := fun j =>
  (d = 0 ∧ B j) ∨ (0 < d ∧ ∃ p, p < 9 ∧ B p ∧ S (d - 1) p j)
def gr_en (S : gr_T) (r i : Nat) : Nat → Prop :=
  gr_fo S (r % 9) (gr_fo S (r / 9 % 9) (gr_fo S (r / 81) (fun p => p = i)))
theorem gr_fo_mono {S S' : gr_T} {d : Nat} {B B' : Nat → Prop} (hd : d < 9)
    (hS : ∀ s p j, s < 8 → p < 9 → S s p j → S' s p j) (hB : ∀ p, B p → B' p) (j : Nat)
    (h : gr_fo S d B j) : gr_fo S' d B' j := by
  rcases h with ⟨h0, h⟩ | ⟨h0, p, hp, hb, hs⟩
  · exact Or.inl ⟨h0, hB j h⟩
  · exact Or.inr ⟨h0, p, hp, hB p hb, hS (d - 1) p j (by omega) hp hs⟩
theorem gr_en_mono {S S' : gr_T} {r i : Nat} (hr : r < 729)
    (hS : ∀ s p j, s < 8 → p < 9 → S s p j → S' s p j) (j : Nat) (h : gr_en S r i j) : gr_en S' r i j := by
  have h1 : r % 9 < 9 := by omega
  have h2 : r / 9 % 9 < 9 := by omega
  have h3 : r / 81 < 9 := by omega
  exact gr_fo_mono h1 hS (gr_fo_mono h2 hS (gr_fo_mono h3 hS (fun _ h => h))) j h
theorem gr_sg_mono {n : Nat} {t : Nat → Nat} {T T' : gr_T} (h : ∀ s i j, T s i j → T' s i j) (s i j : Nat)
    (g : gr_sg n t T s i j) : gr_sg n t T' s i j := by
  rcases g with ⟨h1, h2⟩ | h1
  · exact Or.inl ⟨h1, h s i j h2⟩
  · exact Or.inr h1
/-! closed tables, and the least one -/
def gr_Cl (c : Nat) (L R : Nat → Nat) (n : Nat) (t : Nat → Nat) (T : gr_T) : Prop :=
  ∀ q, q < c → ∀ i, i ≤ n → ∀ j, gr_en (gr_sg n t T) (R q) i j → T (L q) i j
def gr_LS (c : Nat) (L R : Nat → Nat) (n : Nat) (t : Nat → Nat) : gr_T := fun s i j =>
  ∀ T : gr_T, gr_Cl c L R n t T → T s i j
def gr_S (c : Nat) (L R : Nat → Nat) (n : Nat) (t : Nat → Nat) : gr_T := gr_sg n t (gr_LS c L R n t)
theorem gr_LS_cl {c : Nat} {L R : Nat → Nat} {n : Nat} {t : Nat → Nat} (hR : ∀ q, q < c → R q < 729) :
    gr_Cl c L R n t (gr_LS c L R n t) := by
  intro q hq i hi j h T hT
  exact hT q hq i hi j
    (gr_en_mono (hR q hq) (fun s p j _ _ g => gr_sg_mono (fun s i j l => l T hT) s p j g) j h)
theorem gr_fo_sup {S : gr_T} {n i d : Nat} {B : Nat → Prop}
    (hS : ∀ s p j, p ≤ n → S s p j → p ≤ j ∧ j ≤ n) (hB : ∀ p, B p → i ≤ p ∧ p ≤ n) (j : Nat)
    (h : gr_fo S d B j) : i ≤ j ∧ j ≤ n := by
  rcases h with ⟨_, h⟩ | ⟨_, p, _, hb, hs⟩
  · exact hB j h
  · have h1 := hB p hb
    have h2 := hS (d - 1) p j h1.2 hs
    omega
theorem gr_en_sup {S : gr_T} {n r i : Nat} (hi : i ≤ n) (hS : ∀ s p j, p ≤ n → S s p j → p ≤ j ∧ j ≤ n)
    (j : Nat) (h : gr_en S r i j) : i ≤ j ∧ j ≤ n :=
  gr_fo_sup hS (gr_fo_sup hS (gr_fo_sup hS (fun p (h : p = i) => by omega))) j h
theorem gr_sg_sup {n : Nat} {t : Nat → Nat} {T : gr_T} (hT : ∀ s p j, p ≤ n → T s p j → p ≤ j ∧ j ≤ n)
    (s p j : Nat) (hp : p ≤ n) (h : gr_sg n t T s p j) : p ≤ j ∧ j ≤ n := by
  rcases h with ⟨_, g⟩ | ⟨_, g1, g2, _⟩
  · exact hT s p j hp g
  · omega
theorem gr_LS_sup {c : Nat} {L R : Nat → Nat} {n : Nat} {t : Nat → Nat} (hL : ∀ q, q < c → L q < 5)
    {s i j : Nat} (h : gr_LS c L R n t s i j) : s < 5 ∧ i ≤ j ∧ j ≤ n := by
  refine h (fun s i j => s < 5 ∧ i ≤ j ∧ j ≤ n) (fun q hq i hi j g => ⟨hL q hq, ?_⟩)
  exact gr_en_sup hi (gr_sg_sup (fun s p j _ g => g.2)) j g
theorem gr_S_sup {c : Nat} {L R : Nat → Nat} {n : Nat} {t : Nat → Nat} (hL : ∀ q, q < c → L q < 5)
    (s i j : Nat) (hi : i ≤ n) (h : gr_S c L R n t s i j) : i ≤ j ∧ j ≤ n :=
  gr_sg_sup (fun _ _ _ _ g => (gr_LS_sup hL g).2) s i j hi h
theorem gr_LS_eq {c : Nat} {L R : Nat → Nat} {n : Nat} {t : Nat → Nat} {T : gr_T} (hc : gr_Cl c L R n t T)
    (hl : ∀ s i j, T s i j → gr_LS c L R n t s i j) (s i j : Nat) : T s i j ↔ gr_LS c L R n t s i j :=
  ⟨hl s i j, fun h => h T hc⟩
/-! the text counts below its length alone -/
theorem gr_sg_t {n : Nat} {t t' : Nat → Nat} (h : ∀ i, i < n → t i = t' i) (T : gr_T) : gr_sg n t T = gr_sg n t' T := by
  funext s i j
  refine propext ⟨fun g => ?_, fun g => ?_⟩
  · rcases g with g | ⟨g1, g2, g3, g4⟩
    · exact Or.inl g
    · exact Or.inr ⟨g1, g2, g3, by rw [← h i g3]; exact g4⟩
  · rcases g with g | ⟨g1, g2, g3, g4⟩
    · exact Or.inl g
    · exact Or.inr ⟨g1, g2, g3, by rw [h i g3]; exact g4⟩
theorem gr_Cl_t {c : Nat} {L R : Nat → Nat} {n : Nat} {t t' : Nat → Nat} (h : ∀ i, i < n → t i = t' i) (T : gr_T)
    (g : gr_Cl c L R n t T) : gr_Cl c L R n t' T := by
  intro q hq i hi j k
  rw [← gr_sg_t h T] at k
  exact g q hq i hi j k
theorem gr_S_t {c : Nat} {L R : Nat → Nat} {n : Nat} {t t' : Nat → Nat} (h : ∀ i, i < n → t i = t' i)
    (s i j : Nat) (g : gr_S c L R n t s i j) : gr_S c L R n t' s i j := by
  have e : gr_S c L R n t = gr_sg n t' (gr_LS c L R n t) := gr_sg_t h _
  rw [e] at g
  exact gr_sg_mono (fun s i j l T hT => l T (gr_Cl_t (fun i hi => (h i hi).symm) T hT)) s i j g
/-! a row of signs, as the cuts of a stretch -/
theorem gr_fo_0 {S : gr_T} {B : Nat → Prop} {j : Nat} : gr_fo S 0 B j ↔ B j := by
  constructor
  · intro h
    rcases h with ⟨_, h⟩ | ⟨h, _⟩
    · exact h
    · exact absurd h (by omega)
  · exact fun h => Or.inl ⟨rfl, h⟩
theorem gr_fo_p {S : gr_T} {B : Nat → Prop} {d j : Nat} (hd : 0 < d) :
    gr_fo S d B j ↔ ∃ p, p < 9 ∧ B p ∧ S (d - 1) p j := by
  constructor
  · intro h
    rcases h with ⟨h, _⟩ | ⟨_, h⟩
    · exact absurd h (by omega)
    · exact h
  · exact fun h => Or.inr ⟨hd, h⟩
theorem gr_en0 {S : gr_T} {i j : Nat} : gr_en S 0 i j ↔ j = i := by
  show gr_fo S 0 (gr_fo S 0 (gr_fo S 0 (fun p => p = i))) j ↔ _
  rw [gr_fo_0, gr_fo_0, gr_fo_0]
theorem gr_en1 {S : gr_T} {r i j : Nat} (h0 : 0 < r) (h9 : r < 9) (hi : i < 9) : gr_en S r i j ↔ S (r - 1) i j := by
  unfold gr_en
  rw [show r / 81 = 0 by omega, show r / 9 % 9 = 0 by omega, show r % 9 = r by omega, gr_fo_p h0]
  constructor
  · intro ⟨p, _, hb, hs⟩
    rw [gr_fo_0, gr_fo_0] at hb
    rw [← hb]
    exact hs
  · exact fun h => ⟨i, hi, by rw [gr_fo_0, gr_fo_0], h⟩
theorem gr_en2 {S : gr_T} {n r i j : Nat} (h0 : 9 ≤ r) (h9 : r < 81) (hz : r % 9 ≠ 0) (hn : n ≤ 8) (hi : i ≤ n)
    (hS : ∀ s p j, p ≤ n → S s p j → p ≤ j ∧ j ≤ n) :
    gr_en S r i j ↔ ∃ m, i ≤ m ∧ m ≤ j ∧ S (r / 9 % 9 - 1) i m ∧ S (r % 9 - 1) m j := by
  unfold gr_en
  have hd : 0 < r / 9 % 9 := by omega
  rw [show r / 81 = 0 by omega, gr_fo_p (d := r % 9) (by omega)]
  constructor
  · intro ⟨m, _, hb, hs⟩
    rw [gr_fo_p hd] at hb
    obtain ⟨p, _, hp, h1⟩ := hb
    rw [gr_fo_0] at hp
    subst hp
    have a := hS _ _ _ hi h1
    have b := hS _ _ _ a.2 hs
    exact ⟨m, a.1, b.1, h1, hs⟩
  · intro ⟨m, h1, h2, h3, h4⟩
    have a := hS _ _ _ hi h3
    exact ⟨m, by omega, by rw [gr_fo_p hd]; exact ⟨i, by omega, by rw [gr_fo_0], h3⟩, h4⟩
theorem gr_en3 {S : gr_T} {n r i j : Nat} (h0 : 81 ≤ r) (hz : r % 9 ≠ 0) (hy : r / 9 % 9 ≠ 0) (hn : n ≤ 8) (hi : i ≤ n)
    (hS : ∀ s p j, p ≤ n → S s p j → p ≤ j ∧ j ≤ n) :
    gr_en S r i j ↔ ∃ m, i ≤ m ∧ m ≤ j ∧ S (r / 81 - 1) i m ∧
      ∃ k, m ≤ k ∧ k ≤ j ∧ S (r / 9 % 9 - 1) m k ∧ S (r % 9 - 1) k j := by
  unfold gr_en
  have hd : 0 < r / 9 % 9 := by omega
  have he : 0 < r / 81 := by omega
  rw [gr_fo_p (d := r % 9) (by omega)]
  constructor
  · intro ⟨k, _, hb, hs⟩
    rw [gr_fo_p hd] at hb
    obtain ⟨m, _, hc, h1⟩ := hb
    rw [gr_fo_p he] at hc
    obtain ⟨p, _, hp, h2⟩ := hc
    subst hp
    have a := hS _ _ _ hi h2
    have b := hS _ _ _ a.2 h1
    have c := hS _ _ _ b.2 hs
    exact ⟨m, a.1, by omega, h2, k, b.1, c.1, h1, hs⟩
  · intro ⟨m, h1, h2, h3, k, h4, h5, h6, h7⟩
    have a := hS _ _ _ hi h3
    have b := hS _ _ _ a.2 h6
    refine ⟨k, by omega, ?_, h7⟩
    rw [gr_fo_p hd]
    refine ⟨m, by omega, ?_, h6⟩
    rw [gr_fo_p he]
    exact ⟨i, by omega, rfl, h3⟩
/-! counting members -/
def gr_cn (P : Nat → Bool) : Nat → Nat
  | 0 => 0
  | k + 1 => gr_cn P k + (if P k = true then 1 else 0)
theorem gr_cn_le {P Q : Nat → Bool} : ∀ n, (∀ k, k < n → P k = true → Q k = true) → gr_cn P n ≤ gr_cn Q n := by
  intro n
  induction n with
  | zero => intro _; exact Nat.le_refl _
  | succ n ih =>
    intro h
    have a := ih (fun k hk => h k (by omega))
    have b := h n (by omega)
    show gr_cn P n + (if P n = true then 1 else 0) ≤ gr_cn Q n + (if Q n = true then 1 else 0)
    by_cases p : P n = true
    · rw [if_pos p, if_pos (b p)]; omega
    · rw [if_neg p]; omega
theorem gr_cn_lt {P Q : Nat → Bool} : ∀ n, (∀ k, k < n → P k = true → Q k = true) →
    (∃ k, k < n ∧ P k = false ∧ Q k = true) → gr_cn P n < gr_cn Q n := by
  intro n
  induction n with
  | zero => intro _ ⟨k, hk, _⟩; exact absurd hk (by omega)
  | succ n ih =>
    intro h ⟨k, hk, hp, hq⟩
    show gr_cn P n + (if P n = true then 1 else 0) < gr_cn Q n + (if Q n = true then 1 else 0)
    have b := h n (by omega)
    by_cases e : k = n
    · subst e
      have a := gr_cn_le (P := P) (Q := Q) k (fun m hm => h m (by omega))
      rw [if_pos hq, if_neg (by rw [hp]; decide)]; omega
    · have a := ih (fun m hm => h m (by omega)) ⟨k, by omega, hp, hq⟩
      by_cases p : P n = true
      · rw [if_pos p, if_pos (b p)]; omega
      · rw [if_neg p]; omega
theorem gr_cn_225 : gr_cn (fun k => decide (k / 9 % 9 ≤ k % 9)) 405 = 225 := by decide +kernel
theorem gr_cn_b {P : Nat → Bool} (h : ∀ k, k < 405 → P k = true → k / 9 % 9 ≤ k % 9) : gr_cn P 405 ≤ 225 := by
  rw [← gr_cn_225]
  exact gr_cn_le 405 (fun k hk hp => decide_eq_true (h k hk hp))
