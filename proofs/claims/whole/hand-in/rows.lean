section
/-! a table of fits: sign, first place, last place; the letters of a text; a digit followed; a row of three digits -/
abbrev gr_T : Type := Nat → Nat → Nat → Prop
def gr_sg (n : Nat) (t : Nat → Nat) (T : gr_T) : gr_T := fun s i j =>
  (s < 5 ∧ T s i j) ∨ (5 ≤ s ∧ j = i + 1 ∧ i < n ∧ t i = s)
def gr_fo (S : gr_T) (d : Nat) (B : Nat → Prop) : Nat → Prop := fun j =>
  (d = 0 ∧ B j) ∨ (0 < d ∧ ∃ p, p < 9 ∧ B p ∧ S (d - 1) p j)
def gr_en (S : gr_T) (r i : Nat) : Nat → Prop :=
  gr_fo S (r % 9) (gr_fo S (r / 9 % 9) (gr_fo S (r / 81) (fun p => p = i)))
theorem gr_fo_mono {S S' : gr_T} {d : Nat} {B B' : Nat → Prop} (hd : d < 9)
    (hS : ∀ s p j, s < 8 → p < 9 → S s p j → S' s p j) (hB : ∀ p, B p → B' p) (j : Nat)
    (h : gr_fo S d B j) : gr_fo S' d B' j := by
  rcases h with ⟨h0, h⟩ | ⟨h0, p, hp, hb, hs⟩
  · exact Or.inl ⟨h0, hB j h⟩
  · exact Or.inr ⟨h0, p, hp, hB p hb, hS (d - 1) p j (by omega) hp hs⟩
theorem gr_en_mono {S S' : gr_T} {r i : Nat} (hr : r < 729)
    (hS : ∀ s p j, s < 8 → p < 9 → S s p j → S' s p j) (j : Nat) (h : gr_en S r i j) : gr_en S' r i j := by
  have h1 : r % 9 < 9 := by omega
  have h2 : r / 9 % 9 < 9 := by omega
  have h3 : r / 81 < 9 := by omega
  exact gr_fo_mono h1 hS (gr_fo_mono h2 hS (gr_fo_mono h3 hS (fun _ h => h))) j h
theorem gr_sg_mono {n : Nat} {t : Nat → Nat} {T T' : gr_T} (h : ∀ s i j, T s i j → T' s i j) (s i j : Nat)
    (g : gr_sg n t T s i j) : gr_sg n t T' s i j := by
  rcases g with ⟨h1, h2⟩ | h1
  · exact Or.inl ⟨h1, h s i j h2⟩
  · exact Or.inr h1
/-! closed tables, and the least one -/
def gr_Cl (c : Nat) (L R : Nat → Nat) (n : Nat) (t : Nat → Nat) (T : gr_T) : Prop :=
  ∀ q, q < c → ∀ i, i ≤ n → ∀ j, gr_en (gr_sg n t T) (R q) i j → T (L q) i j
def gr_LS (c : Nat) (L R : Nat → Nat) (n : Nat) (t : Nat → Nat) : gr_T := fun s i j =>
  ∀ T : gr_T, gr_Cl c L R n t T → T s i j
def gr_S (c : Nat) (L R : Nat → Nat) (n : Nat) (t : Nat → Nat) : gr_T := gr_sg n t (gr_LS c L R n t)
theorem gr_LS_cl {c : Nat} {L R : Nat → Nat} {n : Nat} {t : Nat → Nat} (hR : ∀ q, q < c → R q < 729) :
    gr_Cl c L R n t (gr_LS c L R n t) := by
  intro q hq i hi j h T hT
  exact hT q hq i hi j
    (gr_en_mono (hR q hq) (fun s p j _ _ g => gr_sg_mono (fun s i j l => l T hT) s p j g) j h)
theorem gr_fo_sup {S : gr_T} {n i d : Nat} {B : Nat → Prop}
    (hS : ∀ s p j, p ≤ n → S s p j → p ≤ j ∧ j ≤ n) (hB : ∀ p, B p → i ≤ p ∧ p ≤ n) (j : Nat)
    (h : gr_fo S d B j) : i ≤ j ∧ j ≤ n := by
  rcases h with ⟨_, h⟩ | ⟨_, p, _, hb, hs⟩
  · exact hB j h
  · have h1 := hB p hb
    have h2 := hS (d - 1) p j h1.2 hs
    omega
theorem gr_en_sup {S : gr_T} {n r i : Nat} (hi : i ≤ n) (hS : ∀ s p j, p ≤ n → S s p j → p ≤ j ∧ j ≤ n)
    (j : Nat) (h : gr_en S r i j) : i ≤ j ∧ j ≤ n :=
  gr_fo_sup hS (gr_fo_sup hS (gr_fo_sup hS (fun p (h : p = i) => by omega))) j h
theorem gr_sg_sup {n : Nat} {t : Nat → Nat} {T : gr_T} (hT : ∀ s p j, p ≤ n → T s p j → p ≤ j ∧ j ≤ n)
    (s p j : Nat) (hp : p ≤ n) (h : gr_sg n t T s p j) : p ≤ j ∧ j ≤ n := by
  rcases h with ⟨_, g⟩ | ⟨_, g1, g2, _⟩
  · exact hT s p j hp g
  · omega
theorem gr_LS_sup {c : Nat} {L R : Nat → Nat} {n : Nat} {t : Nat → Nat} (hL : ∀ q, q < c → L q < 5)
    {s i j : Nat} (h : gr_LS c L R n t s i j) : s < 5 ∧ i ≤ j ∧ j ≤ n := by
  refine h (fun s i j => s < 5 ∧ i ≤ j ∧ j ≤ n) (fun q hq i hi j g => ⟨hL q hq, ?_⟩)
  exact gr_en_sup hi (gr_sg_sup (fun s p j _ g => g.2)) j g
theorem gr_S_sup {c : Nat} {L R : Nat → Nat} {n : Nat} {t : Nat → Nat} (hL : ∀ q, q < c → L q < 5)
    (s i j : Nat) (hi : i ≤ n) (h : gr_S c L R n t s i j) : i ≤ j ∧ j ≤ n :=
  gr_sg_sup (fun _ _ _ _ g => (gr_LS_sup hL g).2) s i j hi h
theorem gr_LS_eq {c : Nat} {L R : Nat → Nat} {n : Nat} {t : Nat → Nat} {T : gr_T} (hc : gr_Cl c L R n t T)
    (hl : ∀ s i j, T s i j → gr_LS c L R n t s i j) (s i j : Nat) : T s i j ↔ gr_LS c L R n t s i j :=
  ⟨hl s i j, fun h => h T hc⟩
/-! the text counts below its length alone -/
theorem gr_sg_t {n : Nat} {t t' : Nat → Nat} (h : ∀ i, i < n → t i = t' i) (T : gr_T) : gr_sg n t T = gr_sg n t' T := by
  funext s i j
  refine propext ⟨fun g => ?_, fun g => ?_⟩
  · rcases g with g | ⟨g1, g2, g3, g4⟩
    · exact Or.inl g
    · exact Or.inr ⟨g1, g2, g3, by rw [← h i g3]; exact g4⟩
  · rcases g with g | ⟨g1, g2, g3, g4⟩
    · exact Or.inl g
    · exact Or.inr ⟨g1, g2, g3, by rw [h i g3]; exact g4⟩
theorem gr_Cl_t {c : Nat} {L R : Nat → Nat} {n : Nat} {t t' : Nat → Nat} (h : ∀ i, i < n → t i = t' i) (T : gr_T)
    (g : gr_Cl c L R n t T) : gr_Cl c L R n t' T := by
  intro q hq i hi j k
  rw [← gr_sg_t h T] at k
  exact g q hq i hi j k
theorem gr_S_t {c : Nat} {L R : Nat → Nat} {n : Nat} {t t' : Nat → Nat} (h : ∀ i, i < n → t i = t' i)
    (s i j : Nat) (g : gr_S c L R n t s i j) : gr_S c L R n t' s i j := by
  have e : gr_S c L R n t = gr_sg n t' (gr_LS c L R n t) := gr_sg_t h _
  rw [e] at g
  exact gr_sg_mono (fun s i j l T hT => l T (gr_Cl_t (fun i hi => (h i hi).symm) T hT)) s i j g
/-! a row of signs, as the cuts of a stretch -/
theorem gr_fo_0 {S : gr_T} {B : Nat → Prop} {j : Nat} : gr_fo S 0 B j ↔ B j := by
  constructor
  · intro h
    rcases h with ⟨_, h⟩ | ⟨h, _⟩
    · exact h
    · exact absurd h (by omega)
  · exact fun h => Or.inl ⟨rfl, h⟩
theorem gr_fo_p {S : gr_T} {B : Nat → Prop} {d j : Nat} (hd : 0 < d) :
    gr_fo S d B j ↔ ∃ p, p < 9 ∧ B p ∧ S (d - 1) p j := by
  constructor
  · intro h
    rcases h with ⟨h, _⟩ | ⟨_, h⟩
    · exact absurd h (by omega)
    · exact h
  · exact fun h => Or.inr ⟨hd, h⟩
theorem gr_en0 {S : gr_T} {i j : Nat} : gr_en S 0 i j ↔ j = i := by
  show gr_fo S 0 (gr_fo S 0 (gr_fo S 0 (fun p => p = i))) j ↔ _
  rw [gr_fo_0, gr_fo_0, gr_fo_0]
theorem gr_en1 {S : gr_T} {r i j : Nat} (h0 : 0 < r) (h9 : r < 9) (hi : i < 9) : gr_en S r i j ↔ S (r - 1) i j := by
  unfold gr_en
  rw [show r / 81 = 0 by omega, show r / 9 % 9 = 0 by omega, show r % 9 = r by omega, gr_fo_p h0]
  constructor
  · intro ⟨p, _, hb, hs⟩
    rw [gr_fo_0, gr_fo_0] at hb
    rw [← hb]
    exact hs
  · exact fun h => ⟨i, hi, by rw [gr_fo_0, gr_fo_0], h⟩
theorem gr_en2 {S : gr_T} {n r i j : Nat} (h0 : 9 ≤ r) (h9 : r < 81) (hz : r % 9 ≠ 0) (hn : n ≤ 8) (hi : i ≤ n)
    (hS : ∀ s p j, p ≤ n → S s p j → p ≤ j ∧ j ≤ n) :
    gr_en S r i j ↔ ∃ m, i ≤ m ∧ m ≤ j ∧ S (r / 9 % 9 - 1) i m ∧ S (r % 9 - 1) m j := by
  unfold gr_en
  have hd : 0 < r / 9 % 9 := by omega
  rw [show r / 81 = 0 by omega, gr_fo_p (d := r % 9) (by omega)]
  constructor
  · intro ⟨m, _, hb, hs⟩
    rw [gr_fo_p hd] at hb
    obtain ⟨p, _, hp, h1⟩ := hb
    rw [gr_fo_0] at hp
    subst hp
    have a := hS _ _ _ hi h1
    have b := hS _ _ _ a.2 hs
    exact ⟨m, a.1, b.1, h1, hs⟩
  · intro ⟨m, h1, h2, h3, h4⟩
    have a := hS _ _ _ hi h3
    exact ⟨m, by omega, by rw [gr_fo_p hd]; exact ⟨i, by omega, by rw [gr_fo_0], h3⟩, h4⟩
theorem gr_en3 {S : gr_T} {n r i j : Nat} (h0 : 81 ≤ r) (hz : r % 9 ≠ 0) (hy : r / 9 % 9 ≠ 0) (hn : n ≤ 8) (hi : i ≤ n)
    (hS : ∀ s p j, p ≤ n → S s p j → p ≤ j ∧ j ≤ n) :
    gr_en S r i j ↔ ∃ m, i ≤ m ∧ m ≤ j ∧ S (r / 81 - 1) i m ∧
      ∃ k, m ≤ k ∧ k ≤ j ∧ S (r / 9 % 9 - 1) m k ∧ S (r % 9 - 1) k j := by
  unfold gr_en
  have hd : 0 < r / 9 % 9 := by omega
  have he : 0 < r / 81 := by omega
  rw [gr_fo_p (d := r % 9) (by omega)]
  constructor
  · intro ⟨k, _, hb, hs⟩
    rw [gr_fo_p hd] at hb
    obtain ⟨m, _, hc, h1⟩ := hb
    rw [gr_fo_p he] at hc
    obtain ⟨p, _, hp, h2⟩ := hc
    subst hp
    have a := hS _ _ _ hi h2
    have b := hS _ _ _ a.2 h1
    have c := hS _ _ _ b.2 hs
    exact ⟨m, a.1, by omega, h2, k, b.1, c.1, h1, hs⟩
  · intro ⟨m, h1, h2, h3, k, h4, h5, h6, h7⟩
    have a := hS _ _ _ hi h3
    have b := hS _ _ _ a.2 h6
    refine ⟨k, by omega, ?_, h7⟩
    rw [gr_fo_p hd]
    refine ⟨m, by omega, ?_, h6⟩
    rw [gr_fo_p he]
    exact ⟨i, by omega, rfl, h3⟩
/-! counting members -/
def gr_cn (P : Nat → Bool) : Nat → Nat
  | 0 => 0
  | k + 1 => gr_cn P k + (if P k = true then 1 else 0)
theorem gr_cn_le {P Q : Nat → Bool} : ∀ n, (∀ k, k < n → P k = true → Q k = true) → gr_cn P n ≤ gr_cn Q n := by
  intro n
  induction n with
  | zero => intro _; exact Nat.le_refl _
  | succ n ih =>
    intro h
    have a := ih (fun k hk => h k (by omega))
    have b := h n (by omega)
    show gr_cn P n + (if P n = true then 1 else 0) ≤ gr_cn Q n + (if Q n = true then 1 else 0)
    by_cases p : P n = true
    · rw [if_pos p, if_pos (b p)]; omega
    · rw [if_neg p]; omega
theorem gr_cn_lt {P Q : Nat → Bool} : ∀ n, (∀ k, k < n → P k = true → Q k = true) →
    (∃ k, k < n ∧ P k = false ∧ Q k = true) → gr_cn P n < gr_cn Q n := by
  intro n
  induction n with
  | zero => intro _ ⟨k, hk, _⟩; exact absurd hk (by omega)
  | succ n ih =>
    intro h ⟨k, hk, hp, hq⟩
    show gr_cn P n + (if P n = true then 1 else 0) < gr_cn Q n + (if Q n = true then 1 else 0)
    have b := h n (by omega)
    by_cases e : k = n
    · subst e
      have a := gr_cn_le (P := P) (Q := Q) k (fun m hm => h m (by omega))
      rw [if_pos hq, if_neg (by rw [hp]; decide)]; omega
    · have a := ih (fun m hm => h m (by omega)) ⟨k, by omega, hp, hq⟩
      by_cases p : P n = true
      · rw [if_pos p, if_pos (b p)]; omega
      · rw [if_neg p]; omega
theorem gr_cn_225 : gr_cn (fun k => decide (k / 9 % 9 ≤ k % 9)) 405 = 225 := by decide +kernel
theorem gr_cn_b {P : Nat → Bool} (h : ∀ k, k < 405 → P k = true → k / 9 % 9 ≤ k % 9) : gr_cn P 405 ≤ 225 := by
  rw [← gr_cn_225]
  exact gr_cn_le 405 (fun k hk hp => decide_eq_true (h k hk hp))
end
section
/-! rows pasted from kit/rows: stores, numbers, branches; Int32 by its bits -/
theorem pk_us {f : Nat → Int32} {k : Nat} {x : Int32} : upd f k x k = x := if_pos rfl
theorem pk_un {f : Nat → Int32} {k j : Nat} {x : Int32} (h : j ≠ k) : upd f k x j = f j := if_neg h
theorem pk_sub {a b : Nat} (h : b ≤ a) : nI a - nI b = nI (a - b) := by
  obtain ⟨c, rfl⟩ : ∃ c, a = c + b := ⟨a - b, by omega⟩
  rw [← nI_add, Int32.add_sub_cancel, Nat.add_sub_cancel]
theorem pk_m1 (n : Nat) : nI (n + 1) + (-1) = nI n := by
  rw [← nI_1, Int32.add_assoc, show (1 : Int32) + (-1) = 0 from rfl, Int32.add_zero]
theorem pk_mul (a b : Nat) : nI a * nI b = nI (a * b) := (Int32.ofNat_mul a b).symm
theorem pk_div {a d : Nat} (ha : a < 2 ^ 31) (h0 : 0 < d) (hd : d < 2 ^ 31) : nI a / nI d = nI (a / d) := by
  apply Int32.toInt_inj.mp
  rw [lg_idiv_nonneg (by rw [nI_toInt ha]; omega) (by rw [nI_toInt hd]; omega), nI_toInt ha, nI_toInt hd, nI_toInt (Nat.lt_of_le_of_lt (Nat.div_le_self a d) ha)]
  first | rfl | exact (Int.natCast_ediv _ _).symm
theorem pk_rem {a d : Nat} (ha : a < 2 ^ 31) (h0 : 0 < d) (hd : d < 2 ^ 31) : nI a - nI a / nI d * nI d = nI (a % d) := by
  rw [pk_div ha h0 hd, pk_mul, pk_sub (Nat.div_mul_le_self a d)]
  exact congrArg nI (by have := Nat.div_add_mod' a d; omega)
theorem pk_ix (x : Int32) {n : Nat} (hn : n < 2 ^ 31) : x < 0 ∨ nI n ≤ x ∨ ∃ j : Nat, j < n ∧ x = nI j := by
  by_cases h : x < 0
  · exact Or.inl h
  · obtain ⟨j, hj, rfl⟩ := nI_of h
    by_cases h2 : j < n
    · exact Or.inr (Or.inr ⟨j, h2, rfl⟩)
    · exact Or.inr (Or.inl (nI_le (by omega) hj))
theorem pk_le {x y : Int32} {A B : Prop} (a b : Nat) (f : a ≤ b → A) (g : b < a → B) (hx : x = nI a := by rfl) (hy : y = nI b := by rfl) (ha : a < 2 ^ 31 := by omega) (hb : b < 2 ^ 31 := by omega) : (x ≤ y → A) ∧ (¬ x ≤ y → B) := by
  subst hx hy
  rw [nI_leI ha hb]
  exact ⟨f, fun z => g (by omega)⟩
theorem pk_lt {x y : Int32} {A B : Prop} (a b : Nat) (f : a < b → A) (g : b ≤ a → B) (hx : x = nI a := by rfl) (hy : y = nI b := by rfl) (ha : a < 2 ^ 31 := by omega) (hb : b < 2 ^ 31 := by omega) : (x < y → A) ∧ (¬ x < y → B) := by
  subst hx hy
  rw [nI_ltI ha hb]
  exact ⟨f, fun z => g (by omega)⟩
theorem pk_eq {x y : Int32} {A B : Prop} (a b : Nat) (f : a = b → A) (g : a ≠ b → B) (hx : x = nI a := by rfl) (hy : y = nI b := by rfl) (ha : a < 2 ^ 31 := by omega) (hb : b < 2 ^ 31 := by omega) : (x = y → A) ∧ (¬ x = y → B) := by
  subst hx hy
  rw [nI_eq ha hb]
  exact ⟨f, g⟩
theorem pk_in {x : Int32} (n N : Nat) (h : n < N) (hx : x = nI n := by rfl) (hN : N < 2 ^ 31 := by omega) : vp_in x N := by
  subst hx
  exact vp_in_nI h hN
theorem pk_cl {x : Int32} (n : Nat) (hx : x = nI n := by rfl) (h : n < 2 ^ 31 := by omega) : x.toNatClampNeg = n := by
  subst hx
  exact nI_clamp h
theorem pk_loop {σ : Type} (W : Nat → Nat → σ → Prop) (I : Nat → σ → Prop) (e i0 : Nat) (s : σ) (hi : i0 ≤ e) (h0 : I i0 s) (hx : ∀ n s, I e s → W (n + 1) e s)
    (hs : ∀ n i s, i < e → I i s → (∀ s', I (i + 1) s' → W n (i + 1) s') → W (n + 1) i s) : ∃ n, W n i0 s :=
  ⟨e + 1, loop_i W I e hx hs (e + 1) i0 s hi (by omega) h0⟩
def bt (x : Int32) (i : Nat) : Bool := x.toBitVec.getLsbD i
theorem b_ext {x y : Int32} (h : ∀ i, i < 32 → bt x i = bt y i) : x = y := Int32.toBitVec_inj.mp (BitVec.eq_of_getLsbD_eq (fun i hi => h i hi))
theorem b_or (x y : Int32) (i : Nat) : bt (x ||| y) i = (bt x i || bt y i) := by unfold bt; rw [Int32.toBitVec_or, BitVec.getLsbD_or]
theorem b_and (x y : Int32) (i : Nat) : bt (x &&& y) i = (bt x i && bt y i) := by unfold bt; rw [Int32.toBitVec_and, BitVec.getLsbD_and]
theorem b_xor (x y : Int32) (i : Nat) : bt (x ^^^ y) i = (bt x i ^^ bt y i) := by unfold bt; rw [Int32.toBitVec_xor, BitVec.getLsbD_xor]
theorem b_big {x : Int32} {i : Nat} (h : 32 ≤ i) : bt x i = false := BitVec.getLsbD_of_ge _ _ h
theorem b_255 (i : Nat) : bt 255 i = decide (i < 8) := by
  rcases Nat.lt_or_ge i 32 with h | h
  · exact (by decide +kernel : ∀ i, i < 32 → bt 255 i = decide (i < 8)) i h
  · rw [b_big h, decide_eq_false (by omega)]
theorem b_65535 (i : Nat) : bt 65535 i = decide (i < 16) := by
  rcases Nat.lt_or_ge i 32 with h | h
  · exact (by decide +kernel : ∀ i, i < 32 → bt 65535 i = decide (i < 16)) i h
  · rw [b_big h, decide_eq_false (by omega)]
theorem b_m1 : ∀ i, i < 32 → bt (-1) i = true := by decide +kernel
theorem b_0 (i : Nat) : bt 0 i = false := BitVec.getLsbD_zero
theorem s_l : ∀ n, n < 32 → ((nI n &&& 31).toBitVec.smod 32).toNat = n := by decide +kernel
theorem s_u : ∀ n, n < 32 → (((nI n).toUInt32 &&& Int32.toUInt32 31).toBitVec % 32).toNat = n := by decide +kernel
theorem b_shl (n : Nat) (hn : n < 32) (x : Int32) {i : Nat} (hi : i < 32) : bt (x <<< (nI n &&& 31)) i = (decide (n ≤ i) && bt x (i - n)) := by
  unfold bt
  rw [Int32.toBitVec_shiftLeft]
  show (x.toBitVec <<< ((nI n &&& 31).toBitVec.smod 32).toNat).getLsbD i = _
  rw [s_l n hn, BitVec.getLsbD_shiftLeft]
  rcases Nat.lt_or_ge i n with h | h
  · simp [h, Nat.not_le.mpr h]
  · simp [hi, h, Nat.not_lt.mpr h]
theorem b_ushr (n : Nat) (hn : n < 32) (x : Int32) (i : Nat) : bt ((x.toUInt32 >>> ((nI n).toUInt32 &&& Int32.toUInt32 31)).toInt32) i = bt x (n + i) := by
  show (x.toUInt32 >>> ((nI n).toUInt32 &&& Int32.toUInt32 31)).toBitVec.getLsbD i = x.toUInt32.toBitVec.getLsbD (n + i)
  rw [UInt32.toBitVec_shiftRight]
  show (x.toUInt32.toBitVec >>> (((nI n).toUInt32 &&& Int32.toUInt32 31).toBitVec % 32).toNat).getLsbD i = _
  rw [s_u n hn, BitVec.getLsbD_ushiftRight]
theorem b_sshr (n : Nat) (hn : n < 32) (x : Int32) {i : Nat} (hi : i < 32) : bt (x >>> (nI n &&& 31)) i = if n + i < 32 then bt x (n + i) else bt x 31 := by
  unfold bt
  rw [Int32.toBitVec_shiftRight]
  show (x.toBitVec.sshiftRight ((nI n &&& 31).toBitVec.smod 32).toNat).getLsbD i = _
  rw [s_l n hn, BitVec.getLsbD_sshiftRight, BitVec.msb_eq_getLsbD_last]
  simp [hi]
theorem b_shl8 (x : Int32) {i : Nat} (hi : i < 32) : bt (x <<< ((8 : Int32) &&& 31)) i = (decide (8 ≤ i) && bt x (i - 8)) := b_shl 8 (by omega) x hi
theorem b_shl16 (x : Int32) {i : Nat} (hi : i < 32) : bt (x <<< ((16 : Int32) &&& 31)) i = (decide (16 ≤ i) && bt x (i - 16)) := b_shl 16 (by omega) x hi
theorem b_shl24 (x : Int32) {i : Nat} (hi : i < 32) : bt (x <<< ((24 : Int32) &&& 31)) i = (decide (24 ≤ i) && bt x (i - 24)) := b_shl 24 (by omega) x hi
theorem b_sshr8 (x : Int32) {i : Nat} (hi : i < 32) : bt (x >>> ((8 : Int32) &&& 31)) i = if 8 + i < 32 then bt x (8 + i) else bt x 31 := b_sshr 8 (by omega) x hi
end
section
/-! truth values -/
def gr_vb (b : Bool) : Int32 := if b = true then 1 else 0
noncomputable def gr_dc (P : Prop) : Bool := @decide P (Classical.propDecidable P)
theorem gr_dc_iff {P : Prop} : gr_dc P = true ↔ P := @decide_eq_true_iff P (Classical.propDecidable P)
theorem gr_dc_t {P : Prop} (h : P) : gr_dc P = true := gr_dc_iff.mpr h
theorem gr_dc_f {P : Prop} (h : ¬ P) : gr_dc P = false := by
  cases e : gr_dc P
  · rfl
  · exact absurd (gr_dc_iff.mp e) h
theorem gr_dc_e {P Q : Prop} (h : P ↔ Q) : gr_dc P = gr_dc Q := by rw [propext h]
theorem gr_dc_b {b : Bool} {P : Prop} (h : b = true ↔ P) : b = gr_dc P := by
  cases b
  · exact (gr_dc_f (fun p => Bool.noConfusion (h.mpr p))).symm
  · exact (gr_dc_t (h.mp rfl)).symm
theorem gr_nt {b : Bool} (h : ¬ b = true) : b = false := by
  cases b
  · rfl
  · exact absurd rfl h
theorem gr_vb_t {b : Bool} (h : b = true) : gr_vb b = 1 := if_pos h
theorem gr_vb_f {b : Bool} (h : ¬ b = true) : gr_vb b = 0 := if_neg h
theorem gr_vb_01 (b : Bool) : gr_vb b = 0 ∨ gr_vb b = 1 := by
  cases b
  · exact Or.inl rfl
  · exact Or.inr rfl
theorem gr_vb_1 {b : Bool} : gr_vb b = 1 ↔ b = true := by cases b <;> decide
theorem gr_vb_0 {b : Bool} : gr_vb b = 0 ↔ b = false := by cases b <;> decide
/-! one bit of a set -/
theorem gr_b1k : ∀ i, i < 32 → ∀ j, j < 32 → bt ((1 : Int32) <<< (nI i &&& 31)) j = decide (j = i) := by decide +kernel
theorem gr_b1 {i : Nat} (hi : i < 32) (j : Nat) : bt ((1 : Int32) <<< (nI i &&& 31)) j = decide (j = i) := by
  rcases Nat.lt_or_ge j 32 with h | h
  · exact gr_b1k i hi j h
  · rw [b_big h, decide_eq_false (by omega)]
theorem gr_b1v (j : Nat) : bt 1 j = decide (j = 0) := by
  rcases Nat.lt_or_ge j 32 with h | h
  · exact (by decide +kernel : ∀ j, j < 32 → bt 1 j = decide (j = 0)) j h
  · rw [b_big h, decide_eq_false (by omega)]
theorem gr_bit (x : Int32) {e : Nat} (he : e < 32) : (x >>> (nI e &&& 31)) &&& 1 = gr_vb (bt x e) := by
  apply b_ext
  intro i hi
  rw [b_and, b_sshr e he x hi, gr_b1v]
  by_cases h : i = 0
  · subst h
    rw [if_pos (show e + 0 < 32 by omega), Nat.add_zero]
    cases bt x e <;> decide
  · rw [decide_eq_false h, Bool.and_false]
    cases bt x e
    · exact (b_0 i).symm
    · show false = bt 1 i
      rw [gr_b1v, decide_eq_false h]
/-! X's sets, followed -/
def gr_X (a : Nat → Int32) : gr_T := fun s i j => bt (a (9 * s + i)) j = true
def gr_for (a : Nat → Int32) (d : Nat) (b : Int32) : Nat → Int32
  | 0 => 0
  | k + 1 => if bt b k = true then gr_for a d b k ||| a (9 * (d - 1) + k) else gr_for a d b k
def gr_fol (a : Nat → Int32) (d : Nat) (b : Int32) : Int32 := if d = 0 then b else gr_for a d b 9
def gr_eor (a : Nat → Int32) (r i : Nat) : Int32 :=
  gr_fol a (r % 9) (gr_fol a (r / 9 % 9) (gr_fol a (r / 81) ((1 : Int32) <<< (nI i &&& 31))))
theorem gr_for_b (a : Nat → Int32) (d : Nat) (b : Int32) : ∀ k j, bt (gr_for a d b k) j = true ↔
    ∃ p, p < k ∧ bt b p = true ∧ bt (a (9 * (d - 1) + p)) j = true := by
  intro k
  induction k with
  | zero =>
    intro j
    constructor
    · intro h
      have h2 : bt 0 j = true := h
      rw [b_0] at h2
      exact Bool.noConfusion h2
    · intro ⟨p, hp, _⟩
      exact absurd hp (by omega)
  | succ k ih =>
    intro j
    show bt (if bt b k = true then gr_for a d b k ||| a (9 * (d - 1) + k) else gr_for a d b k) j = true ↔ _
    by_cases hb : bt b k = true
    · rw [if_pos hb, b_or, Bool.or_eq_true, ih j]
      constructor
      · intro h
        rcases h with ⟨p, h1, h2, h3⟩ | h
        · exact ⟨p, by omega, h2, h3⟩
        · exact ⟨k, by omega, hb, h⟩
      · intro ⟨p, h1, h2, h3⟩
        by_cases e : p = k
        · subst e
          exact Or.inr h3
        · exact Or.inl ⟨p, by omega, h2, h3⟩
    · rw [if_neg hb, ih j]
      constructor
      · intro ⟨p, h1, h2, h3⟩
        exact ⟨p, by omega, h2, h3⟩
      · intro ⟨p, h1, h2, h3⟩
        by_cases e : p = k
        · subst e
          exact absurd h2 hb
        · exact ⟨p, by omega, h2, h3⟩
theorem gr_fol_b (a : Nat → Int32) (d : Nat) (b : Int32) (j : Nat) : bt (gr_fol a d b) j = true ↔
    gr_fo (gr_X a) d (fun p => bt b p = true) j := by
  unfold gr_fol
  by_cases hd : d = 0
  · rw [if_pos hd, hd, gr_fo_0]
  · rw [if_neg hd, gr_for_b, gr_fo_p (by omega)]
    exact Iff.rfl
theorem gr_eor_b (a : Nat → Int32) (r : Nat) {i : Nat} (hi : i < 32) (j : Nat) :
    bt (gr_eor a r i) j = true ↔ gr_en (gr_X a) r i j := by
  have e0 : (fun p => bt ((1 : Int32) <<< (nI i &&& 31)) p = true) = (fun p => p = i) :=
    funext fun p => by rw [gr_b1 hi p, decide_eq_true_eq]
  have e1 : (fun p => bt (gr_fol a (r / 81) ((1 : Int32) <<< (nI i &&& 31))) p = true) =
      gr_fo (gr_X a) (r / 81) (fun p => p = i) := funext fun p => propext (by rw [gr_fol_b, e0])
  have e2 : (fun p => bt (gr_fol a (r / 9 % 9) (gr_fol a (r / 81) ((1 : Int32) <<< (nI i &&& 31)))) p = true) =
      gr_fo (gr_X a) (r / 9 % 9) (gr_fo (gr_X a) (r / 81) (fun p => p = i)) :=
    funext fun p => propext (by rw [gr_fol_b, e1])
  unfold gr_eor gr_en
  rw [gr_fol_b, e2]
/-! good grammars; what holds of X's sets while they grow -/
def gr_gd (r : Nat) : Prop := r < 729 ∧ (9 ≤ r → r % 9 ≠ 0) ∧ (81 ≤ r → r / 9 % 9 ≠ 0)
def gr_G (c : Nat) (L R : Nat → Nat) : Prop := c ≤ 12 ∧ ∀ q, q < c → L q < 5 ∧ gr_gd (R q)
theorem gr_G_L {c : Nat} {L R : Nat → Nat} (h : gr_G c L R) : ∀ q, q < c → L q < 5 := fun q hq => (h.2 q hq).1
theorem gr_G_R {c : Nat} {L R : Nat → Nat} (h : gr_G c L R) : ∀ q, q < c → R q < 729 := fun q hq => (h.2 q hq).2.1
def gr_I (c : Nat) (L R : Nat → Nat) (n : Nat) (t : Nat → Nat) (a : Nat → Int32) : Prop :=
  (∀ s, s < 5 → ∀ i, i < 9 → ∀ j, bt (a (9 * s + i)) j = true → gr_LS c L R n t s i j) ∧
  (∀ s, 5 ≤ s → s < 8 → ∀ i, i < 9 → ∀ j, bt (a (9 * s + i)) j = true ↔ (j = i + 1 ∧ i < n ∧ t i = s))
theorem gr_I_S {c : Nat} {L R : Nat → Nat} {n : Nat} {t : Nat → Nat} {a : Nat → Int32} (h : gr_I c L R n t a)
    (s p j : Nat) (hs : s < 8) (hp : p < 9) (g : gr_X a s p j) : gr_S c L R n t s p j := by
  by_cases h5 : s < 5
  · exact Or.inl ⟨h5, h.1 s h5 p hp j g⟩
  · exact Or.inr ⟨by omega, (h.2 s (by omega) hs p hp j).mp g⟩
def gr_st (a : Nat → Int32) (l r i : Nat) : Nat → Int32 := upd a (9 * l + i) (a (9 * l + i) ||| gr_eor a r i)
theorem gr_I_st {c : Nat} {L R : Nat → Nat} {n : Nat} {t : Nat → Nat} {a : Nat → Int32} (hG : gr_G c L R) (hn : n ≤ 8)
    (h : gr_I c L R n t a) {q : Nat} (hq : q < c) {i : Nat} (hi : i ≤ n) : gr_I c L R n t (gr_st a (L q) (R q) i) := by
  have hL := gr_G_L hG q hq
  constructor
  · intro s hs p hp j hb
    by_cases e : 9 * s + p = 9 * L q + i
    · have e1 : s = L q := by omega
      have e2 : p = i := by omega
      subst e1 e2
      unfold gr_st at hb
      rw [pk_us, b_or, Bool.or_eq_true] at hb
      rcases hb with hb | hb
      · exact h.1 _ hs _ hp j hb
      · rw [gr_eor_b a (R q) (by omega)] at hb
        exact gr_LS_cl (gr_G_R hG) q hq _ hi j (gr_en_mono (gr_G_R hG q hq) (gr_I_S h) j hb)
    · unfold gr_st at hb
      rw [pk_un e] at hb
      exact h.1 s hs p hp j hb
  · intro s hs hs8 p hp j
    unfold gr_st
    rw [pk_un (show 9 * s + p ≠ 9 * L q + i by omega)]
    exact h.2 s hs hs8 p hp j
/-! how many there are -/
def gr_cx (a : Nat → Int32) : Nat := gr_cn (fun k => bt (a (k / 9)) (k % 9)) 405
theorem gr_cx_b {c : Nat} {L R : Nat → Nat} {n : Nat} {t : Nat → Nat} {a : Nat → Int32} (hG : gr_G c L R)
    (h : gr_I c L R n t a) : gr_cx a ≤ 225 := by
  refine gr_cn_b (fun k hk hb => ?_)
  have hb2 : bt (a (k / 9)) (k % 9) = true := hb
  have e : k / 9 = 9 * (k / 81) + k / 9 % 9 := by omega
  rw [e] at hb2
  exact (gr_LS_sup (gr_G_L hG) (h.1 (k / 81) (by omega) (k / 9 % 9) (by omega) (k % 9) hb2)).2.1
theorem gr_cx_st {c : Nat} {L R : Nat → Nat} {n : Nat} {t : Nat → Nat} {a : Nat → Int32} (hG : gr_G c L R) (hn : n ≤ 8)
    (h : gr_I c L R n t a) {q : Nat} (hq : q < c) {i : Nat} (hi : i ≤ n)
    (hne : a (9 * L q + i) ||| gr_eor a (R q) i ≠ a (9 * L q + i)) : gr_cx a < gr_cx (gr_st a (L q) (R q) i) := by
  have hL := gr_G_L hG q hq
  have h2 := gr_I_st hG hn h hq hi
  refine gr_cn_lt 405 (fun k hk hb => ?_) ?_
  · have hb2 : bt (a (k / 9)) (k % 9) = true := hb
    show bt (gr_st a (L q) (R q) i (k / 9)) (k % 9) = true
    unfold gr_st
    by_cases e : k / 9 = 9 * L q + i
    · rw [e] at hb2 ⊢
      rw [pk_us, b_or, hb2, Bool.true_or]
    · rw [pk_un e]
      exact hb2
  · apply Classical.byContradiction
    intro hno
    apply hne
    apply b_ext
    intro j hj
    cases e0 : bt (a (9 * L q + i)) j
    · cases e1 : bt (a (9 * L q + i) ||| gr_eor a (R q) i) j
      · rfl
      · exfalso
        have e2 : bt (gr_st a (L q) (R q) i (9 * L q + i)) j = true := by
          unfold gr_st
          rw [pk_us]
          exact e1
        have hs := gr_LS_sup (gr_G_L hG) (h2.1 (L q) hL i (by omega) j e2)
        have k1 : (9 * (9 * L q + i) + j) / 9 = 9 * L q + i := by omega
        have k2 : (9 * (9 * L q + i) + j) % 9 = j := by omega
        refine hno ⟨9 * (9 * L q + i) + j, by omega, ?_, ?_⟩
        · show bt (a ((9 * (9 * L q + i) + j) / 9)) ((9 * (9 * L q + i) + j) % 9) = false
          rw [k1, k2]
          exact e0
        · show bt (gr_st a (L q) (R q) i ((9 * (9 * L q + i) + j) / 9)) ((9 * (9 * L q + i) + j) % 9) = true
          rw [k1, k2]
          exact e2
    · rw [b_or, e0, Bool.true_or]
theorem gr_upd_id {a : Nat → Int32} {k : Nat} {x : Int32} (h : x = a k) : upd a k x = a := by
  funext j
  by_cases e : j = k
  · rw [e, pk_us, h]
  · rw [pk_un e]
theorem gr_or_id {x y : Int32} (h : x ||| y = x) (j : Nat) (hj : bt y j = true) : bt x j = true := by
  rw [← h, b_or, hj, Bool.or_true]
/-! progress: something came new and the count grew, or nothing did and Q was seen -/
def gr_gx (cx : (Nat → Int32) → Nat) (a0 a : Nat → Int32) (g : Int32) (Q : Prop) : Prop :=
  (g = 1 ∧ cx a0 < cx a) ∨ (g = 0 ∧ a = a0 ∧ Q)
/-! closed, and sealed -/
def gr_Cx (c : Nat) (L R : Nat → Nat) (n : Nat) (a : Nat → Int32) : Prop :=
  ∀ q, q < c → ∀ i, i ≤ n → ∀ j, gr_en (gr_X a) (R q) i j → bt (a (9 * L q + i)) j = true
theorem gr_X_seal {c : Nat} {L R : Nat → Nat} {n : Nat} {t : Nat → Nat} {a : Nat → Int32} (hG : gr_G c L R) (hn : n ≤ 8)
    (h : gr_I c L R n t a) (hc : gr_Cx c L R n a) {s : Nat} (hs : s < 8) {i : Nat} (hi : i < 9) (j : Nat) :
    bt (a (9 * s + i)) j = true ↔ gr_S c L R n t s i j := by
  constructor
  · exact gr_I_S h s i j hs hi
  · intro g
    rcases g with ⟨h5, g⟩ | ⟨h5, g⟩
    · refine (g (fun s i j => s < 5 ∧ i < 9 ∧ bt (a (9 * s + i)) j = true) ?_).2.2
      intro q hq i hi j k
      refine ⟨gr_G_L hG q hq, by omega, hc q hq i hi j (gr_en_mono (gr_G_R hG q hq) ?_ j k)⟩
      intro s p j hs hp m
      rcases m with ⟨_, _, _, m⟩ | ⟨m5, m⟩
      · exact m
      · exact (h.2 s m5 hs p hp j).mpr m
    · exact (h.2 s h5 hs i hi j).mpr g
noncomputable def gr_B (c : Nat) (L R : Nat → Nat) (n : Nat) (t : Nat → Nat) (s i j : Nat) : Bool := gr_dc (gr_S c L R n t s i j)
noncomputable def gr_E (c : Nat) (L R : Nat → Nat) (n : Nat) (t : Nat → Nat) (r i j : Nat) : Bool :=
  gr_dc (gr_en (gr_S c L R n t) r i j)
/-- X's sets tell the truth -/
def gr_XS (c : Nat) (L R : Nat → Nat) (n : Nat) (t : Nat → Nat) (a : Nat → Int32) : Prop :=
  ∀ s, s < 8 → ∀ i, i < 9 → ∀ j, bt (a (9 * s + i)) j = gr_B c L R n t s i j
theorem gr_XS_of {c : Nat} {L R : Nat → Nat} {n : Nat} {t : Nat → Nat} {a : Nat → Int32} (hG : gr_G c L R) (hn : n ≤ 8)
    (h : gr_I c L R n t a) (hc : gr_Cx c L R n a) : gr_XS c L R n t a :=
  fun _ hs _ hi j => gr_dc_b (gr_X_seal hG hn h hc hs hi j)
theorem gr_XS_e {c : Nat} {L R : Nat → Nat} {n : Nat} {t : Nat → Nat} {a : Nat → Int32} (h : gr_XS c L R n t a)
    {r : Nat} (hr : r < 729) {i : Nat} (hi : i < 9) (j : Nat) : bt (gr_eor a r i) j = gr_E c L R n t r i j := by
  refine gr_dc_b ?_
  rw [gr_eor_b a r (by omega)]
  constructor
  · exact gr_en_mono hr (fun s p j hs hp g => gr_dc_iff.mp ((h s hs p hp j).symm.trans g)) j
  · exact gr_en_mono hr (fun s p j hs hp g => (h s hs p hp j).trans (gr_dc_t g)) j
/-! the text laid -/
def gr_La (m : Nat) (t : Nat → Nat) (a : Nat → Int32) : Prop :=
  ∀ s, s < 8 → ∀ i, i < 9 → ∀ j, bt (a (9 * s + i)) j = true ↔ (j = i + 1 ∧ i < m ∧ t i = s)
theorem gr_La_0 {t : Nat → Nat} {a : Nat → Int32} (h : ∀ k, k < 72 → a k = 0) : gr_La 0 t a := by
  intro s hs i hi j
  rw [h (9 * s + i) (by omega), b_0]
  constructor
  · intro z
    exact Bool.noConfusion z
  · intro z
    exact absurd z.2.1 (by omega)
theorem gr_La_s {m : Nat} {t t' : Nat → Nat} {a : Nat → Int32} (h : gr_La m t a) (hm : m < 8) (ht : t' m < 8)
    (hb : ∀ i, i < m → t' i = t i) : gr_La (m + 1) t' (upd a (9 * t' m + m) ((1 : Int32) <<< (nI (m + 1) &&& 31))) := by
  intro s hs i hi j
  by_cases e : 9 * s + i = 9 * t' m + m
  · have e1 : s = t' m := by omega
    have e2 : i = m := by omega
    subst e1 e2
    rw [pk_us, gr_b1 (by omega), decide_eq_true_eq]
    constructor
    · intro z
      exact ⟨z, by omega, rfl⟩
    · intro z
      exact z.1
  · rw [pk_un e, h s hs i hi j]
    constructor
    · intro z
      exact ⟨z.1, by omega, by rw [hb i z.2.1]; exact z.2.2⟩
    · intro z
      have hne : i ≠ m := by
        intro ei
        subst ei
        exact e (by rw [z.2.2])
      have hlt : i < m := by omega
      exact ⟨z.1, hlt, by rw [← hb i hlt]; exact z.2.2⟩
theorem gr_La_I {c : Nat} {L R : Nat → Nat} {n : Nat} {t : Nat → Nat} {a : Nat → Int32} (h : gr_La n t a)
    (ht : ∀ i, i < n → 5 ≤ t i) : gr_I c L R n t a := by
  constructor
  · intro s hs i hi j g
    have k := (h s (by omega) i hi j).mp g
    have := ht i k.2.1
    exact absurd k.2.2 (by omega)
  · intro s _ hs i hi j
    exact h s hs i hi j
end
section
/-! the reference's table: a cell a sign, a first and a last place -/
def gr_Tb (b : Nat → Int32) : gr_T := fun s i j => s < 5 ∧ i < 9 ∧ j < 9 ∧ b (81 * s + 9 * i + j) = 1
def gr_Sb (n : Nat) (t : Nat → Nat) (b : Nat → Int32) : gr_T := gr_sg n t (gr_Tb b)
def gr_J (c : Nat) (L R : Nat → Nat) (n : Nat) (t : Nat → Nat) (b : Nat → Int32) : Prop :=
  (∀ k, k < 405 → b k = 0 ∨ b k = 1) ∧ (∀ s i j, gr_Tb b s i j → gr_LS c L R n t s i j)
theorem gr_J_sup {c : Nat} {L R : Nat → Nat} {n : Nat} {t : Nat → Nat} {b : Nat → Int32} (hG : gr_G c L R)
    (h : gr_J c L R n t b) (s p j : Nat) (hp : p ≤ n) (g : gr_Sb n t b s p j) : p ≤ j ∧ j ≤ n :=
  gr_sg_sup (fun s p j _ g => (gr_LS_sup (gr_G_L hG) (h.2 s p j g)).2) s p j hp g
theorem gr_J_S {c : Nat} {L R : Nat → Nat} {n : Nat} {t : Nat → Nat} {b : Nat → Int32}
    (h : gr_J c L R n t b) (s p j : Nat) (g : gr_Sb n t b s p j) : gr_S c L R n t s p j := gr_sg_mono h.2 s p j g
theorem gr_J_0 {c : Nat} {L R : Nat → Nat} {n : Nat} {t : Nat → Nat} {b : Nat → Int32} (h : ∀ k, k < 405 → b k = 0) :
    gr_J c L R n t b := by
  constructor
  · exact fun k hk => Or.inl (h k hk)
  · intro s i j ⟨h1, h2, h3, h4⟩
    rw [h (81 * s + 9 * i + j) (by omega)] at h4
    exact absurd h4 (by decide)
theorem gr_J_st {c : Nat} {L R : Nat → Nat} {n : Nat} {t : Nat → Nat} {b : Nat → Int32} (hG : gr_G c L R) (hn : n ≤ 8)
    (h : gr_J c L R n t b) {q : Nat} (hq : q < c) {i j : Nat} (hi : i ≤ n) (hj : j ≤ n) (g : gr_en (gr_Sb n t b) (R q) i j) :
    gr_J c L R n t (upd b (81 * L q + 9 * i + j) 1) := by
  have hL := gr_G_L hG q hq
  constructor
  · intro k hk
    by_cases e : k = 81 * L q + 9 * i + j
    · rw [e, pk_us]
      exact Or.inr rfl
    · rw [pk_un e]
      exact h.1 k hk
  · intro s p m ⟨h1, h2, h3, h4⟩
    by_cases e : 81 * s + 9 * p + m = 81 * L q + 9 * i + j
    · have e1 : s = L q := by omega
      have e2 : p = i := by omega
      have e3 : m = j := by omega
      subst e1 e2 e3
      exact gr_LS_cl (gr_G_R hG) q hq _ hi _ (gr_en_mono (gr_G_R hG q hq) (fun s p j _ _ k => gr_J_S h s p j k) _ g)
    · rw [pk_un e] at h4
      exact h.2 s p m ⟨h1, h2, h3, h4⟩
def gr_cy (b : Nat → Int32) : Nat := gr_cn (fun k => decide (b k = 1)) 405
theorem gr_cy_b {c : Nat} {L R : Nat → Nat} {n : Nat} {t : Nat → Nat} {b : Nat → Int32} (hG : gr_G c L R)
    (h : gr_J c L R n t b) : gr_cy b ≤ 225 := by
  refine gr_cn_b (fun k hk hb => ?_)
  have hb2 : b k = 1 := of_decide_eq_true hb
  have e : k = 81 * (k / 81) + 9 * (k / 9 % 9) + k % 9 := by omega
  rw [e] at hb2
  exact (gr_LS_sup (gr_G_L hG) (h.2 (k / 81) (k / 9 % 9) (k % 9) ⟨by omega, by omega, by omega, hb2⟩)).2.1
theorem gr_cy_st {b : Nat → Int32} {k : Nat} (hk : k < 405) (h0 : b k = 0) : gr_cy b < gr_cy (upd b k 1) := by
  refine gr_cn_lt 405 (fun m hm hb => ?_) ⟨k, hk, ?_, ?_⟩
  · have hb2 : b m = 1 := of_decide_eq_true hb
    refine decide_eq_true ?_
    by_cases e : m = k
    · rw [e, pk_us]
    · rw [pk_un e]
      exact hb2
  · refine decide_eq_false ?_
    rw [h0]
    decide
  · refine decide_eq_true ?_
    rw [pk_us]
def gr_Cy (c : Nat) (L R : Nat → Nat) (n : Nat) (t : Nat → Nat) (b : Nat → Int32) : Prop :=
  ∀ q, q < c → ∀ i, i ≤ n → ∀ j, i ≤ j → j ≤ n → gr_en (gr_Sb n t b) (R q) i j → b (81 * L q + 9 * i + j) = 1
theorem gr_Y_seal {c : Nat} {L R : Nat → Nat} {n : Nat} {t : Nat → Nat} {b : Nat → Int32} (hG : gr_G c L R) (hn : n ≤ 8)
    (h : gr_J c L R n t b) (hc : gr_Cy c L R n t b) : gr_Sb n t b = gr_S c L R n t := by
  funext s i j
  refine propext ⟨gr_J_S h s i j, fun g => ?_⟩
  rcases g with ⟨h5, g⟩ | g
  · refine Or.inl ⟨h5, g (gr_Tb b) ?_⟩
    intro q hq i hi j k
    have hs := gr_en_sup hi (gr_J_sup hG h) j k
    exact ⟨gr_G_L hG q hq, by omega, by omega, hc q hq i hi j hs.1 hs.2 k⟩
  · exact Or.inr g
/-- the reference's table tells the truth -/
def gr_YS (c : Nat) (L R : Nat → Nat) (n : Nat) (t : Nat → Nat) (b : Nat → Int32) : Prop :=
  (∀ k, k < 405 → b k = 0 ∨ b k = 1) ∧ gr_Sb n t b = gr_S c L R n t
theorem gr_YS_of {c : Nat} {L R : Nat → Nat} {n : Nat} {t : Nat → Nat} {b : Nat → Int32} (hG : gr_G c L R) (hn : n ≤ 8)
    (h : gr_J c L R n t b) (hc : gr_Cy c L R n t b) : gr_YS c L R n t b := ⟨h.1, gr_Y_seal hG hn h hc⟩
/-! both sides' fields against the pictures -/
def gr_A (a : Nat → Int32) (f : Nat → Nat) (m : Nat) : Prop := ∀ q, q < m → a q = nI (f q)
def gr_up (f : Nat → Nat) (k x : Nat) : Nat → Nat := fun j => if j = k then x else f j
theorem gr_up_s {f : Nat → Nat} {k x : Nat} : gr_up f k x k = x := if_pos rfl
theorem gr_up_n {f : Nat → Nat} {k x j : Nat} (h : j ≠ k) : gr_up f k x j = f j := if_neg h
theorem gr_A_up {a : Nat → Int32} {f : Nat → Nat} {m x : Nat} (h : gr_A a f m) : gr_A (upd a m (nI x)) (gr_up f m x) (m + 1) := by
  intro q hq
  by_cases e : q = m
  · rw [e, pk_us, gr_up_s]
  · rw [pk_un e, gr_up_n e]
    exact h q (by omega)
theorem gr_A_le {a : Nat → Int32} {f : Nat → Nat} {m m' : Nat} (h : gr_A a f m) (hm : m' ≤ m) : gr_A a f m' :=
  fun q hq => h q (by omega)
def gr_tx (n : Nat) (t : Nat → Nat) : Prop := n ≤ 8 ∧ ∀ i, i < n → 5 ≤ t i ∧ t i ≤ 7
theorem gr_tx_up {n : Nat} {t : Nat → Nat} {x : Nat} (h : gr_tx n t) (hn : n < 8) (h5 : 5 ≤ x) (h7 : x ≤ 7) :
    gr_tx (n + 1) (gr_up t n x) := by
  refine ⟨by omega, fun i hi => ?_⟩
  by_cases e : i = n
  · rw [e, gr_up_s]
    exact ⟨h5, h7⟩
  · rw [gr_up_n e]
    exact h.2 i (by omega)
theorem gr_G_up {c : Nat} {L R : Nat → Nat} {l r : Nat} (h : gr_G c L R) (hc : c < 12) (hl : l < 5) (hr : gr_gd r) :
    gr_G (c + 1) (gr_up L c l) (gr_up R c r) := by
  refine ⟨by omega, fun q hq => ?_⟩
  by_cases e : q = c
  · rw [e, gr_up_s, gr_up_s]
    exact ⟨hl, hr⟩
  · rw [gr_up_n e, gr_up_n e]
    exact h.2 q (by omega)
/-! dropping a rule: all behind it move down -/
def gr_dn (f : Nat → Nat) (k : Nat) : Nat → Nat := fun q => if q < k then f q else f (q + 1)
theorem gr_G_dn {c : Nat} {L R : Nat → Nat} {k : Nat} (h : gr_G c L R) (hk : k < c) : gr_G (c - 1) (gr_dn L k) (gr_dn R k) := by
  refine ⟨by have := h.1; omega, fun q hq => ?_⟩
  unfold gr_dn
  by_cases e : q < k
  · rw [if_pos e, if_pos e]
    exact h.2 q (by omega)
  · rw [if_neg e, if_neg e]
    exact h.2 (q + 1) (by omega)
def gr_sh (a0 : Nat → Int32) (k r : Nat) : Nat → Int32 := fun q => if k ≤ q ∧ q < r then a0 (q + 1) else a0 q
theorem gr_sh_0 (a0 : Nat → Int32) (k : Nat) : gr_sh a0 k k = a0 := by
  funext q
  exact if_neg (by omega)
theorem gr_sh_s (a0 : Nat → Int32) {k r : Nat} (h : k ≤ r) : upd (gr_sh a0 k r) r (gr_sh a0 k r (r + 1)) = gr_sh a0 k (r + 1) := by
  funext q
  by_cases e : q = r
  · rw [e, pk_us]
    unfold gr_sh
    rw [if_neg (by omega), if_pos (by omega)]
  · rw [pk_un e]
    unfold gr_sh
    by_cases g : k ≤ q ∧ q < r
    · rw [if_pos g, if_pos (by omega)]
    · rw [if_neg g, if_neg (by omega)]
theorem gr_A_sh {a0 : Nat → Int32} {f : Nat → Nat} {c k : Nat} (h : gr_A a0 f c) (hk : k < c) :
    gr_A (gr_sh a0 k (c - 1)) (gr_dn f k) (c - 1) := by
  intro q hq
  unfold gr_sh gr_dn
  by_cases e : q < k
  · rw [if_neg (by omega), if_pos e]
    exact h q (by omega)
  · rw [if_pos (by omega), if_neg e]
    exact h (q + 1) (by omega)
/-! writing a text: the digits from the last place down -/
def gr_lay : Nat → Nat → (Nat → Int32) → (Nat → Int32)
  | 0, _, a => a
  | p + 1, w, a => gr_lay p (w / 3) (upd a p (nI (5 + w % 3)))
def gr_dg : Nat → Nat → Nat → Nat
  | 0, _, _ => 5
  | p + 1, w, i => if i = p then 5 + w % 3 else gr_dg p (w / 3) i
theorem gr_dg_in : ∀ p w i, 5 ≤ gr_dg p w i ∧ gr_dg p w i ≤ 7 := by
  intro p
  induction p with
  | zero => exact fun _ _ => ⟨Nat.le_refl 5, by show 5 ≤ 7; omega⟩
  | succ p ih =>
    intro w i
    show 5 ≤ (if i = p then 5 + w % 3 else gr_dg p (w / 3) i) ∧ (if i = p then 5 + w % 3 else gr_dg p (w / 3) i) ≤ 7
    by_cases e : i = p
    · rw [if_pos e]
      omega
    · rw [if_neg e]
      exact ih (w / 3) i
theorem gr_lay_hi : ∀ p w a i, p ≤ i → gr_lay p w a i = a i := by
  intro p
  induction p with
  | zero => exact fun _ _ _ _ => rfl
  | succ p ih =>
    intro w a i hi
    show gr_lay p (w / 3) (upd a p (nI (5 + w % 3))) i = a i
    rw [ih _ _ _ (by omega), pk_un (by omega)]
theorem gr_lay_lo : ∀ p w a, gr_A (gr_lay p w a) (gr_dg p w) p := by
  intro p
  induction p with
  | zero => exact fun _ _ i hi => absurd hi (by omega)
  | succ p ih =>
    intro w a i hi
    show gr_lay p (w / 3) (upd a p (nI (5 + w % 3))) i = nI (if i = p then 5 + w % 3 else gr_dg p (w / 3) i)
    by_cases e : i = p
    · rw [if_pos e, e, gr_lay_hi _ _ _ _ (Nat.le_refl p), pk_us]
    · rw [if_neg e]
      exact ih _ _ i (by omega)
theorem gr_tx_dg {p w : Nat} (hp : p ≤ 8) : gr_tx p (gr_dg p w) := ⟨hp, fun i _ => gr_dg_in p w i⟩
end
section
/-! progress, step by step -/
theorem gr_gx_i {cx : (Nat → Int32) → Nat} {a : Nat → Int32} {Q : Prop} (h : Q) : gr_gx cx a a 0 Q := Or.inr ⟨rfl, rfl, h⟩
theorem gr_gx_g {cx : (Nat → Int32) → Nat} {a0 a a' : Nat → Int32} {g : Int32} {Q Q' : Prop} (h : gr_gx cx a0 a g Q)
    (k : cx a < cx a') : gr_gx cx a0 a' 1 Q' := by
  rcases h with ⟨_, h⟩ | ⟨_, h, _⟩
  · exact Or.inl ⟨rfl, by omega⟩
  · subst h
    exact Or.inl ⟨rfl, k⟩
theorem gr_gx_k {cx : (Nat → Int32) → Nat} {a0 a : Nat → Int32} {g : Int32} {Q Q' : Prop} (h : gr_gx cx a0 a g Q)
    (k : a = a0 → Q → Q') : gr_gx cx a0 a g Q' := by
  rcases h with h | ⟨h0, h, q⟩
  · exact Or.inl h
  · exact Or.inr ⟨h0, h, k h q⟩
theorem gr_gx_01 {cx : (Nat → Int32) → Nat} {a0 a : Nat → Int32} {g : Int32} {Q : Prop} (h : gr_gx cx a0 a g Q) : g = 0 ∨ g = 1 := by
  rcases h with h | h
  · exact Or.inr h.1
  · exact Or.inl h.1
/-- one piece of work behind another, the second has found something -/
theorem gr_gx_t {cx : (Nat → Int32) → Nat} {a0 a a' : Nat → Int32} {g g' : Int32} {Q Q1 Q2 : Prop} (h : gr_gx cx a0 a g Q)
    (h' : gr_gx cx a a' g' Q1) (hg : ¬ g' = 0) : gr_gx cx a0 a' 1 Q2 := by
  rcases h' with ⟨_, h'⟩ | ⟨h', _⟩
  · exact gr_gx_g h h'
  · exact absurd h' hg
/-- one piece of work behind another, the second has found nothing -/
theorem gr_gx_z {cx : (Nat → Int32) → Nat} {a0 a a' : Nat → Int32} {g g' : Int32} {Q Q1 Q2 : Prop} (h : gr_gx cx a0 a g Q)
    (h' : gr_gx cx a a' g' Q1) (hg : g' = 0) (k : a = a0 → Q → Q1 → Q2) : gr_gx cx a0 a' g Q2 := by
  rcases h' with ⟨h', _⟩ | ⟨_, h', q⟩
  · rw [hg] at h'
    exact absurd h' (by decide)
  · subst h'
    exact gr_gx_k h (fun e m => k e m q)
/-! a rule of X's at the places below i -/
def gr_Qx (a : Nat → Int32) (l r i : Nat) : Prop :=
  ∀ p, p < i → ∀ j, gr_en (gr_X a) r p j → bt (a (9 * l + p)) j = true
theorem gr_Qx_0 {a : Nat → Int32} {l r : Nat} : gr_Qx a l r 0 := fun p hp => absurd hp (by omega)
theorem gr_gx_eq {a0 a : Nat → Int32} {g : Int32} {l r i : Nat} (hi : i < 9) (h : gr_gx gr_cx a0 a g (gr_Qx a0 l r i))
    (e : a (9 * l + i) ||| gr_eor a r i = a (9 * l + i)) : gr_gx gr_cx a0 (gr_st a l r i) g (gr_Qx a0 l r (i + 1)) := by
  have e2 : gr_st a l r i = a := gr_upd_id e
  rw [e2]
  refine gr_gx_k h (fun ea q p hp j hj => ?_)
  subst ea
  by_cases ei : p = i
  · subst ei
    exact gr_or_id e j ((gr_eor_b a r (by omega) j).mpr hj)
  · exact q p (by omega) j hj
/-! a pass's end -/
def gr_pp (cx : (Nat → Int32) → Nat) (p : Nat) (a : Nat → Int32) (g : Int32) (Q : Prop) : Prop := (g = 1 ∧ p ≤ cx a) ∨ (g = 0 ∧ Q)
theorem gr_pp_s {cx : (Nat → Int32) → Nat} {p : Nat} {a a' : Nat → Int32} {g : Int32} {Q Q' : Prop} (hp : p ≤ cx a)
    (h : gr_gx cx a a' g Q) (k : a' = a → Q → Q') : gr_pp cx (p + 1) a' g Q' := by
  rcases h with ⟨h1, h2⟩ | ⟨h1, h2, h3⟩
  · exact Or.inl ⟨h1, by omega⟩
  · exact Or.inr ⟨h1, k h2 h3⟩
/-! a rule of the reference's at the stretches before (i, j) -/
def gr_Qy (n : Nat) (t : Nat → Nat) (b : Nat → Int32) (l r i j : Nat) : Prop :=
  ∀ p m, p ≤ m → m ≤ n → (p < i ∨ (p = i ∧ m < j)) → gr_en (gr_Sb n t b) r p m → b (81 * l + 9 * p + m) = 1
theorem gr_Qy_0 {n : Nat} {t : Nat → Nat} {b : Nat → Int32} {l r : Nat} : gr_Qy n t b l r 0 0 := by
  intro p m _ _ h
  omega
theorem gr_Qy_i {n : Nat} {t : Nat → Nat} {b : Nat → Int32} {l r i j : Nat} (h : gr_Qy n t b l r i j) (hj : n < j) :
    gr_Qy n t b l r (i + 1) (i + 1) := by
  intro p m h1 h2 h3 h4
  refine h p m h1 h2 ?_ h4
  omega
theorem gr_Qy_s {n : Nat} {t : Nat → Nat} {b : Nat → Int32} {l r i j : Nat} (h : gr_Qy n t b l r i j)
    (k : gr_en (gr_Sb n t b) r i j → b (81 * l + 9 * i + j) = 1) : gr_Qy n t b l r i (j + 1) := by
  intro p m h1 h2 h3 h4
  by_cases e : p = i ∧ m = j
  · obtain ⟨e1, e2⟩ := e
    subst e1 e2
    exact k h4
  · exact h p m h1 h2 (by omega) h4
end
section
/-! cells -/
theorem gr_i9 (s i : Nat) : nI s * 9 + nI i = nI (9 * s + i) := by
  show nI s * nI 9 + nI i = _
  rw [pk_mul, nI_add, Nat.mul_comm]
theorem gr_i9p {d : Nat} (hd : 0 < d) (i : Nat) : (nI d - 1) * 9 + nI i = nI (9 * (d - 1) + i) := by
  have e : nI d - 1 = nI (d - 1) := pk_sub (b := 1) hd
  rw [e, gr_i9]
theorem gr_i81 (s i j : Nat) : 81 * nI s + 9 * nI i + nI j = nI (81 * s + 9 * i + j) := by
  show nI 81 * nI s + nI 9 * nI i + nI j = _
  rw [pk_mul, pk_mul, nI_add, nI_add]
theorem gr_d81 {r : Nat} (hr : r < 729) : nI r / 81 = nI (r / 81) := pk_div (d := 81) (by omega) (by decide) (by decide)
theorem gr_d9 {r : Nat} (hr : r < 729) : nI r / 9 = nI (r / 9) := pk_div (d := 9) (by omega) (by decide) (by decide)
theorem gr_m9 {r : Nat} (hr : r < 729) : nI r - nI r / 9 * 9 = nI (r % 9) := pk_rem (d := 9) (by omega) (by decide) (by decide)
theorem gr_dm9 {r : Nat} (hr : r < 729) : nI r / 9 - nI r / 9 / 9 * 9 = nI (r / 9 % 9) := by
  rw [gr_d9 hr]
  exact pk_rem (d := 9) (by omega) (by decide) (by decide)
theorem gr_m3 {w : Nat} (hw : w < 2 ^ 31) : nI w - nI w / 3 * 3 = nI (w % 3) := pk_rem (d := 3) hw (by decide) (by decide)
theorem gr_d3 {w : Nat} (hw : w < 2 ^ 31) : nI w / 3 = nI (w / 3) := pk_div (d := 3) hw (by decide) (by decide)
theorem gr_p1 {d : Nat} (hd : 0 < d) : nI d - 1 = nI (d - 1) := pk_sub (b := 1) hd
theorem gr_5p (w : Nat) : 5 + nI w = nI (5 + w) := nI_add 5 w
/-! the two truth values are truth values -/
theorem gr_nb (b : Bool) : narrow .boolean (.int (gr_vb b)) = .int (gr_vb b) := by cases b <;> rfl
theorem gr_nb0 : vp_nar .boolean 0 = 0 := rfl
theorem gr_nb1 : vp_nar .boolean 1 = 1 := rfl
end
section
/-! X: a digit followed, a rule's ends -/
theorem gr_x_for {post : Int32 → Prop} {a al ar tx : Nat → Int32} {d : Nat} {b rc tl : Int32} (hd : 0 < d) (hd9 : d < 9)
    (h : post (gr_for a d b 9)) : ∃ n, wX_follow_11 post (nI d) b rc tl al ar tx a n 0 0 := by
  refine loop_0 (fun n i (s : Int32) => wX_follow_11 post (nI d) b rc tl al ar tx a n s (nI i)) (fun i s => s = gr_for a d b i) 9 0 rfl ?_ ?_
  · intro n s hs
    subst hs
    exact br_t (nI_le (a := 9) (b := 9) (by omega) (by decide)) h
  · intro n i s hi hs k
    subst hs
    refine br_f (nI_ge (b := 9) hi (by decide)) ?_
    rw [gr_bit b (show i < 32 by omega)]
    refine br_c (fun h1 => ?_) (fun h1 => ?_)
    · have hb : bt b i = true := gr_vb_1.mp h1
      rw [gr_i9p hd i, nI_clamp (n := 9 * (d - 1) + i) (by omega)]
      refine ⟨vp_in_nI (by omega) (by decide), nm_e (nm_r (nI_1 i) ?_)⟩
      exact k _ (if_pos hb).symm
    · have hb : ¬ bt b i = true := fun z => h1 (gr_vb_1.mpr z)
      refine nm_r (nI_1 i) ?_
      exact k _ (if_neg hb).symm
theorem gr_x_follow {post : Int32 → Prop} {a al ar tx : Nat → Int32} {d : Nat} {b rc tl : Int32} (hd9 : d < 9)
    (h : post (gr_fol a d b)) : wpX_follow post (rc, tl, al, ar, tx, a) (nI d) b := by
  unfold wpX_follow
  dsimp only
  unfold gr_fol at h
  by_cases h0 : d = 0
  · subst h0
    rw [if_pos rfl] at h
    exact br_t rfl h
  · rw [if_neg h0] at h
    exact br_f (nI_ne0 (by omega) (by omega)) (gr_x_for (by omega) hd9 h)
theorem gr_x_eor {post : Int32 → Prop} {a al ar tx : Nat → Int32} {c : Nat} {L R : Nat → Nat} {rc tl : Int32} (hG : gr_G c L R)
    {q i : Nat} (hq : q < c) (hr : gr_A ar R c) (h : post (gr_eor a (R q) i)) :
    wpX_endsOfRule post (rc, tl, al, ar, tx, a) (nI q) (nI i) := by
  have hc := hG.1
  have hR := gr_G_R hG q hq
  unfold wpX_endsOfRule
  dsimp only
  rw [nI_clamp (n := q) (by omega), hr q hq]
  refine ⟨vp_in_nI (by omega) (by decide), nm_e (nm_e ⟨by decide, ?_⟩)⟩
  rw [gr_d81 hR]
  refine gr_x_follow (by omega) ⟨by decide, by decide, ?_⟩
  rw [gr_dm9 hR]
  refine gr_x_follow (by omega) ⟨by decide, ?_⟩
  rw [gr_m9 hR]
  exact gr_x_follow (by omega) h
/-! X: a rule applied at all places -/
theorem gr_x_applyRule {post : Int32 → SX → Prop} {a0 al ar tx : Nat → Int32} {c : Nat} {L R : Nat → Nat} {n : Nat} {t : Nat → Nat}
    {rc tl : Int32} (hG : gr_G c L R) (hn : n ≤ 8) (hI : gr_I c L R n t a0) {q : Nat} (hq : q < c) (hl : gr_A al L c) (hr : gr_A ar R c)
    (H : ∀ g a, gr_I c L R n t a → gr_gx gr_cx a0 a g (gr_Qx a0 (L q) (R q) (n + 1)) → post g (rc, tl, al, ar, tx, a)) :
    wpX_applyRule post (rc, tl, al, ar, tx, a0) (nI q) (nI n) := by
  have hc := hG.1
  have hL := gr_G_L hG q hq
  unfold wpX_applyRule
  dsimp only
  refine loop_0 (fun m i (s : Int32 × (Nat → Int32)) => wX_applyRule_5 post (nI q) (nI n) rc tl m s.1 (nI i) al ar tx s.2)
    (fun i s => gr_I c L R n t s.2 ∧ gr_gx gr_cx a0 s.2 s.1 (gr_Qx a0 (L q) (R q) i)) (n + 1) (0, a0) ⟨hI, gr_gx_i gr_Qx_0⟩ ?_ ?_
  · intro m s hs
    obtain ⟨g, a⟩ := s
    dsimp only at hs ⊢
    refine br_t (nI_lt (by omega) (by omega)) ⟨?_, H g a hs.1 hs.2⟩
    rcases gr_gx_01 hs.2 with e | e <;> subst e <;> rfl
  · intro m i s hi hs k
    obtain ⟨g, a⟩ := s
    dsimp only at hs ⊢
    refine br_f (nI_nlt (by omega) (by omega)) ⟨vp_in_nI (by omega) (by decide), ?_⟩
    rw [nI_clamp (n := q) (by omega), hl q hq]
    refine nm_r (gr_i9 (L q) i) ?_
    rw [nI_clamp (n := 9 * L q + i) (by omega)]
    refine ⟨vp_in_nI (by omega) (by decide), nm_e ?_⟩
    refine gr_x_eor hG hq hr ⟨vp_in_nI (by omega) (by decide), nm_e ⟨vp_in_nI (by omega) (by decide), ?_⟩⟩
    rw [pk_us]
    by_cases e : a (9 * L q + i) ||| gr_eor a (R q) i = a (9 * L q + i)
    · refine br_t e (nm_r (nI_1 i) ?_)
      exact k (g, gr_st a (L q) (R q) i) ⟨gr_I_st hG hn hs.1 hq (by omega), gr_gx_eq (by omega) hs.2 e⟩
    · refine br_f e (nm_r (nI_1 i) ?_)
      exact k (1, gr_st a (L q) (R q) i) ⟨gr_I_st hG hn hs.1 hq (by omega), gr_gx_g hs.2 (gr_cx_st hG hn hs.1 hq (by omega) e)⟩
/-! X: one pass, all passes -/
theorem gr_x_pass {post : SX → Prop} {J : Int32 → Int32 → Int32 → Int32 → (Nat → Int32) → (Nat → Int32) → (Nat → Int32) → (Nat → Int32) → Prop}
    {a0 al ar tx : Nat → Int32} {c : Nat} {L R : Nat → Nat} {n : Nat} {t : Nat → Nat}
    {tl : Int32} {p : Nat} (hG : gr_G c L R) (hn : n ≤ 8) (hI : gr_I c L R n t a0) (hl : gr_A al L c) (hr : gr_A ar R c)
    (H : ∀ g a, gr_I c L R n t a → gr_gx gr_cx a0 a g (gr_Cx c L R n a0) → J g (nI (p + 1)) (nI c) tl al ar tx a) :
    ∃ m, wX_applyRules_20 post J (nI n) (nI p) m 0 0 (nI c) tl al ar tx a0 := by
  have hc := hG.1
  refine loop_0 (fun m r (s : Int32 × (Nat → Int32)) => wX_applyRules_20 post J (nI n) (nI p) m s.1 (nI r) (nI c) tl al ar tx s.2)
    (fun r s => gr_I c L R n t s.2 ∧ gr_gx gr_cx a0 s.2 s.1 (gr_Cx r L R n a0)) c (0, a0)
    ⟨hI, gr_gx_i (fun q hq => absurd hq (by omega))⟩ ?_ ?_
  · intro m s hs
    obtain ⟨g, a⟩ := s
    dsimp only at hs ⊢
    exact br_t (nI_le (Nat.le_refl c) (by omega)) (nm_r (nI_1 p) (H g a hs.1 hs.2))
  · intro m r s hi hs k
    obtain ⟨g, a⟩ := s
    dsimp only at hs ⊢
    refine br_f (nI_ge hi (by omega)) ?_
    refine gr_x_applyRule hG hn hs.1 hi hl hr (fun g' a' hI' hg' => ?_)
    dsimp only
    by_cases e : g' = 0
    · refine br_t e (nm_r (nI_1 r) ?_)
      refine k (g, a') ⟨hI', gr_gx_z hs.2 hg' e (fun ea q0 q1 q hq i hi' j hj => ?_)⟩
      subst ea
      by_cases eq : q = r
      · subst eq
        exact q1 i (by omega) j hj
      · exact q0 q (by omega) i hi' j hj
    · refine br_f e (nm_r (nI_1 r) ?_)
      exact k (1, a') ⟨hI', gr_gx_t hs.2 hg' e⟩
theorem gr_x_rules {post : SX → Prop} {a0 al ar tx : Nat → Int32} {c : Nat} {L R : Nat → Nat} {n : Nat} {t : Nat → Nat}
    {tl : Int32} (hG : gr_G c L R) (hn : n ≤ 8) (hI : gr_I c L R n t a0) (hl : gr_A al L c) (hr : gr_A ar R c)
    (H : ∀ a, gr_XS c L R n t a → post (nI c, tl, al, ar, tx, a)) :
    wpX_applyRules post (nI c, tl, al, ar, tx, a0) (nI n) := by
  unfold wpX_applyRules
  dsimp only
  refine loop_0 (fun m p (s : Int32 × (Nat → Int32)) => wX_applyRules_4 post (nI n) m s.1 (nI p) (nI c) tl al ar tx s.2)
    (fun p s => gr_I c L R n t s.2 ∧ gr_pp gr_cx p s.2 s.1 (gr_Cx c L R n s.2)) 226 (1, a0)
    ⟨hI, Or.inl ⟨rfl, Nat.zero_le _⟩⟩ ?_ ?_
  · intro m s hs
    obtain ⟨g, a⟩ := s
    dsimp only at hs ⊢
    refine br_t (nI_le (a := 226) (b := 226) (by omega) (by decide)) (H a ?_)
    rcases hs.2 with ⟨_, h2⟩ | ⟨_, h2⟩
    · have := gr_cx_b hG hs.1
      exact absurd h2 (by omega)
    · exact gr_XS_of hG hn hs.1 h2
  · intro m p s hi hs k
    obtain ⟨g, a⟩ := s
    dsimp only at hs ⊢
    refine br_f (nI_ge (b := 226) hi (by decide)) ?_
    rcases hs.2 with ⟨h1, h2⟩ | ⟨h1, h2⟩
    · refine br_f (by rw [h1]; decide) ?_
      exact gr_x_pass hG hn hs.1 hl hr (fun g' a' hI' hg' => k (g', a') ⟨hI', gr_pp_s h2 hg' (fun e q => by rw [e]; exact q)⟩)
    · exact br_t h1 (H a (gr_XS_of hG hn hs.1 h2))
/-! X: the text laid, and the whole -/
theorem gr_x_layLetter {post : SX → Prop} {a al ar tx : Nat → Int32} {rc tl : Int32} {l p : Nat} (hl : l < 8) (hp : p < 8)
    (h : post (rc, tl, al, ar, tx, upd a (9 * l + p) ((1 : Int32) <<< (nI (p + 1) &&& 31)))) :
    wpX_layLetter post (rc, tl, al, ar, tx, a) (nI l) (nI p) := by
  unfold wpX_layLetter
  dsimp only
  rw [gr_i9 l p, nI_1 p, nI_clamp (n := 9 * l + p) (by omega)]
  exact ⟨vp_in_nI (by omega) (by decide), nm_e h⟩
theorem gr_x_lay2 {post : SX → Prop} {a0 al ar tx : Nat → Int32} {rc : Int32} {n : Nat} {t : Nat → Nat} (ht : gr_tx n t) (hx : gr_A tx t n)
    (h0 : gr_La 0 t a0) (H : ∀ a, gr_La n t a → post (rc, nI n, al, ar, tx, a)) :
    ∃ m, wX_layText_23 post m 0 rc (nI n) al ar tx a0 := by
  have hn := ht.1
  refine loop_0 (fun m i (s : Nat → Int32) => wX_layText_23 post m (nI i) rc (nI n) al ar tx s) (fun i s => gr_La i t s) n a0 h0 ?_ ?_
  · intro m s hs
    exact br_t (nI_le (Nat.le_refl n) (by omega)) (H s hs)
  · intro m i s hi hs k
    have h7 := ht.2 i hi
    refine br_f (nI_ge hi (by omega)) ⟨vp_in_nI (by omega) (by decide), ?_⟩
    rw [nI_clamp (n := i) (by omega), hx i hi]
    refine gr_x_layLetter (by omega) (by omega) ?_
    dsimp only
    refine nm_r (nI_1 i) ?_
    exact k _ (gr_La_s hs (by omega) (by omega) (fun _ _ => rfl))
theorem gr_x_layText {post : SX → Prop} {a0 al ar tx : Nat → Int32} {rc : Int32} {n : Nat} {t : Nat → Nat} (ht : gr_tx n t) (hx : gr_A tx t n)
    (H : ∀ a, gr_La n t a → post (rc, nI n, al, ar, tx, a)) : wpX_layText post (rc, nI n, al, ar, tx, a0) := by
  unfold wpX_layText
  dsimp only
  refine loop_0 (fun m i (s : Nat → Int32) => wX_layText_2 post rc (nI n) m (nI i) al ar tx s) (fun i s => ∀ q, q < i → s q = 0) 72 a0
    (fun q hq => absurd hq (by omega)) ?_ ?_
  · intro m s hs
    exact br_t (nI_le (a := 72) (b := 72) (by omega) (by decide)) (gr_x_lay2 ht hx (gr_La_0 hs) H)
  · intro m i s hi hs k
    refine br_f (nI_ge (b := 72) hi (by decide)) ⟨vp_in_nI hi (by decide), ?_⟩
    rw [nI_clamp (n := i) (by omega)]
    refine nm_e (nm_r (nI_1 i) ?_)
    refine k _ (fun q hq => ?_)
    by_cases e : q = i
    · rw [e, pk_us]
    · rw [pk_un e]
      exact hs q (by omega)
theorem gr_x_find {post : SX → Prop} {a0 al ar tx : Nat → Int32} {c : Nat} {L R : Nat → Nat} {n : Nat} {t : Nat → Nat}
    (hG : gr_G c L R) (ht : gr_tx n t) (hl : gr_A al L c) (hr : gr_A ar R c) (hx : gr_A tx t n)
    (H : ∀ a, gr_XS c L R n t a → post (nI c, nI n, al, ar, tx, a)) : wpX_findReach post (nI c, nI n, al, ar, tx, a0) := by
  unfold wpX_findReach
  dsimp only
  refine gr_x_layText ht hx (fun a hLa => ?_)
  dsimp only
  exact gr_x_rules hG ht.1 (gr_La_I hLa (fun i hi => (ht.2 i hi).1)) hl hr H
theorem gr_x_bit {post : Int32 → Prop} {x : Int32} {e : Nat} (he : e < 32) (h : post (gr_vb (bt x e))) : wpX_bit post x (nI e) := by
  unfold wpX_bit
  rw [gr_bit x he]
  exact h
end
section
/-! the reference: a sign, two signs, a row -/
theorem gr_y_sign {post : Int32 → Prop} {b bl br ty : Nat → Int32} {n : Nat} {t : Nat → Nat} {cn ln : Int32} (ht : gr_tx n t) (hy : gr_A ty t n)
    (hb : ∀ k, k < 405 → b k = 0 ∨ b k = 1) {s i j : Nat} (hs : s < 8) (hij : i ≤ j) (hj : j ≤ n)
    (h : post (gr_vb (gr_dc (gr_Sb n t b s i j)))) : wpY_signFits post (cn, ln, bl, br, ty, b) (nI s) (nI i) (nI j) := by
  have hn := ht.1
  unfold wpY_signFits
  dsimp only
  rw [gr_i81 s i j, nI_clamp (n := 81 * s + 9 * i + j) (by omega)]
  refine pk_le s 4 (fun h4 => ?_) (fun h4 => ?_)
  · have e : b (81 * s + 9 * i + j) = gr_vb (gr_dc (gr_Sb n t b s i j)) := by
      rcases hb (81 * s + 9 * i + j) (by omega) with e | e
      · rw [e, gr_dc_f]
        · rfl
        · intro g
          rcases g with ⟨_, g⟩ | ⟨g, _⟩
          · have g2 := g.2.2.2
            rw [e] at g2
            exact absurd g2 (by decide)
          · omega
      · rw [e, gr_dc_t]
        · rfl
        · exact Or.inl ⟨by omega, by omega, by omega, by omega, e⟩
    rw [e]
    exact ⟨vp_in_nI (by omega) (by decide), gr_nb _, h⟩
  · rw [nI_1 i]
    refine pk_eq j (i + 1) (fun e => ?_) (fun e => ?_)
    · refine pk_le 8 i (fun h8 => absurd h8 (by omega)) (fun h8 => ⟨vp_in_nI (by omega) (by decide), ?_⟩)
      have ht' := ht.2 i (by omega)
      rw [nI_clamp (n := i) (by omega), hy i (by omega)]
      refine pk_eq (t i) s (fun e2 => ?_) (fun e2 => ?_)
      · rw [gr_dc_t (show gr_Sb n t b s i j from Or.inr ⟨by omega, e, by omega, e2⟩)] at h
        exact h
      · rw [gr_dc_f] at h
        · exact h
        · intro g
          rcases g with ⟨g, _⟩ | ⟨_, _, _, g⟩
          · omega
          · exact e2 g
    · rw [gr_dc_f] at h
      · exact h
      · intro g
        rcases g with ⟨g, _⟩ | ⟨_, g, _⟩
        · omega
        · exact e g
theorem gr_y_two {post : Int32 → Prop} {b bl br ty : Nat → Int32} {n : Nat} {t : Nat → Nat} {cn ln : Int32} (ht : gr_tx n t) (hy : gr_A ty t n)
    (hb : ∀ k, k < 405 → b k = 0 ∨ b k = 1) {s1 s2 i j : Nat} (hs1 : s1 < 8) (hs2 : s2 < 8) (hij : i ≤ j) (hj : j ≤ n)
    (h : post (gr_vb (gr_dc (∃ m, i ≤ m ∧ m ≤ j ∧ gr_Sb n t b s1 i m ∧ gr_Sb n t b s2 m j)))) :
    wpY_twoFit post (cn, ln, bl, br, ty, b) (nI s1) (nI s2) (nI i) (nI j) := by
  have hn := ht.1
  unfold wpY_twoFit
  dsimp only
  refine pk_loop (fun m k (_ : Unit) => wY_twoFit_3 post (nI s1) (nI s2) (nI i) (nI j) cn ln bl br ty b m (nI k))
    (fun k _ => i ≤ k ∧ ∀ m, i ≤ m → m < k → ¬ (gr_Sb n t b s1 i m ∧ gr_Sb n t b s2 m j)) (j + 1) i () (by omega)
    ⟨Nat.le_refl i, fun m h1 h2 => absurd h2 (by omega)⟩ ?_ ?_
  · intro m _ hs
    refine br_t (nI_lt (by omega) (by omega)) ?_
    rw [gr_dc_f] at h
    · exact h
    · intro ⟨m, h1, h2, h3⟩
      exact hs.2 m h1 (by omega) h3
  · intro m k _ hk hs kk
    obtain ⟨ik, hs⟩ := hs
    have nx : ¬ (gr_Sb n t b s1 i k ∧ gr_Sb n t b s2 k j) →
        i ≤ k + 1 ∧ ∀ m, i ≤ m → m < k + 1 → ¬ (gr_Sb n t b s1 i m ∧ gr_Sb n t b s2 m j) := by
      intro hk2
      refine ⟨by omega, fun m h1 h2 => ?_⟩
      by_cases e : m = k
      · subst e
        exact hk2
      · exact hs m h1 (by omega)
    refine br_f (nI_nlt (by omega) (by omega)) ?_
    refine gr_y_sign ht hy hb hs1 ik (by omega) ?_
    by_cases e1 : gr_Sb n t b s1 i k
    · rw [gr_dc_t e1]
      refine br_f (by decide) ?_
      refine gr_y_sign ht hy hb hs2 (by omega) hj ?_
      by_cases e2 : gr_Sb n t b s2 k j
      · rw [gr_dc_t e2]
        refine br_f (by decide) ?_
        rw [gr_dc_t ⟨k, ik, by omega, e1, e2⟩] at h
        exact h
      · rw [gr_dc_f e2]
        exact br_t (by decide) (nm_r (nI_1 k) (kk () (nx (fun z => e2 z.2))))
    · rw [gr_dc_f e1]
      exact br_t (by decide) (nm_r (nI_1 k) (kk () (nx (fun z => e1 z.1))))
theorem gr_y_row3 {post : Int32 → Prop} {b bl br ty : Nat → Int32} {n : Nat} {t : Nat → Nat} {cn ln : Int32} (ht : gr_tx n t) (hy : gr_A ty t n)
    (hb : ∀ k, k < 405 → b k = 0 ∨ b k = 1) {s1 s2 s3 i j : Nat} (hs1 : s1 < 8) (hs2 : s2 < 8) (hs3 : s3 < 8) (hij : i ≤ j) (hj : j ≤ n)
    (h : post (gr_vb (gr_dc (∃ m, i ≤ m ∧ m ≤ j ∧ gr_Sb n t b s1 i m ∧
      ∃ k, m ≤ k ∧ k ≤ j ∧ gr_Sb n t b s2 m k ∧ gr_Sb n t b s3 k j)))) :
    ∃ m, wY_rowFits_77 post (nI i) (nI j) (nI s3) (nI s2) (nI s1) cn ln bl br ty b m (nI i) := by
  have hn := ht.1
  refine pk_loop (fun m k (_ : Unit) => wY_rowFits_77 post (nI i) (nI j) (nI s3) (nI s2) (nI s1) cn ln bl br ty b m (nI k))
    (fun k _ => i ≤ k ∧ ∀ m, i ≤ m → m < k → ¬ (gr_Sb n t b s1 i m ∧ ∃ k, m ≤ k ∧ k ≤ j ∧ gr_Sb n t b s2 m k ∧ gr_Sb n t b s3 k j))
    (j + 1) i () (by omega) ⟨Nat.le_refl i, fun m h1 h2 => absurd h2 (by omega)⟩ ?_ ?_
  · intro m _ hs
    refine br_t (nI_lt (by omega) (by omega)) ?_
    rw [gr_dc_f] at h
    · exact h
    · intro ⟨m, h1, h2, h3⟩
      exact hs.2 m h1 (by omega) h3
  · intro m k _ hk hs kk
    obtain ⟨ik, hs⟩ := hs
    have nx : ¬ (gr_Sb n t b s1 i k ∧ ∃ p, k ≤ p ∧ p ≤ j ∧ gr_Sb n t b s2 k p ∧ gr_Sb n t b s3 p j) →
        i ≤ k + 1 ∧ ∀ m, i ≤ m → m < k + 1 → ¬ (gr_Sb n t b s1 i m ∧ ∃ k, m ≤ k ∧ k ≤ j ∧ gr_Sb n t b s2 m k ∧ gr_Sb n t b s3 k j) := by
      intro hk2
      refine ⟨by omega, fun m h1 h2 => ?_⟩
      by_cases e : m = k
      · subst e
        exact hk2
      · exact hs m h1 (by omega)
    refine br_f (nI_nlt (by omega) (by omega)) ?_
    refine gr_y_sign ht hy hb hs1 ik (by omega) ?_
    by_cases e1 : gr_Sb n t b s1 i k
    · rw [gr_dc_t e1]
      refine br_f (by decide) ?_
      refine gr_y_two ht hy hb hs2 hs3 (by omega) hj ?_
      by_cases e2 : ∃ p, k ≤ p ∧ p ≤ j ∧ gr_Sb n t b s2 k p ∧ gr_Sb n t b s3 p j
      · rw [gr_dc_t e2]
        refine br_f (by decide) ?_
        rw [gr_dc_t ⟨k, ik, by omega, e1, e2⟩] at h
        exact h
      · rw [gr_dc_f e2]
        exact br_t (by decide) (nm_r (nI_1 k) (kk () (nx (fun z => e2 z.2))))
    · rw [gr_dc_f e1]
      exact br_t (by decide) (nm_r (nI_1 k) (kk () (nx (fun z => e1 z.1))))
theorem gr_y_row {post : Int32 → Prop} {b bl br ty : Nat → Int32} {n : Nat} {t : Nat → Nat} {cn ln : Int32} (ht : gr_tx n t) (hy : gr_A ty t n)
    (hb : ∀ k, k < 405 → b k = 0 ∨ b k = 1) (hS : ∀ s p j, p ≤ n → gr_Sb n t b s p j → p ≤ j ∧ j ≤ n)
    {r i j : Nat} (hg : gr_gd r) (hij : i ≤ j) (hj : j ≤ n)
    (h : post (gr_vb (gr_dc (gr_en (gr_Sb n t b) r i j)))) : wpY_rowFits post (cn, ln, bl, br, ty, b) (nI r) (nI i) (nI j) := by
  have hn := ht.1
  obtain ⟨hr, h9, h81⟩ := hg
  unfold wpY_rowFits
  dsimp only
  rw [gr_m9 hr, gr_dm9 hr, gr_d81 hr]
  refine pk_eq r 0 (fun e => ?_) (fun e => ⟨by decide, ?_⟩)
  · subst e
    rw [gr_dc_e gr_en0] at h
    refine pk_eq i j (fun e => ?_) (fun e => ?_)
    · rw [gr_dc_t e.symm] at h
      exact h
    · rw [gr_dc_f (fun z => e z.symm)] at h
      exact h
  · have k9 : 0 < r % 9 := by
      by_cases l : 9 ≤ r
      · have := h9 l
        omega
      · omega
    refine nm_r (gr_p1 k9) ?_
    refine pk_le 9 r (fun l9 => ⟨by decide, by decide, ?_⟩) (fun l9 => ?_)
    · have k99 : 0 < r / 9 % 9 := by
        by_cases l : 81 ≤ r
        · have := h81 l
          omega
        · omega
      refine nm_r (gr_p1 k99) ?_
      refine pk_le 81 r (fun l81 => ⟨by decide, ?_⟩) (fun l81 => ?_)
      · refine nm_r (gr_p1 (show 0 < r / 81 by omega)) ?_
        rw [gr_dc_e (gr_en3 l81 (by omega) (by omega) hn (by omega) hS)] at h
        exact gr_y_row3 ht hy hb (by omega) (by omega) (by omega) hij hj h
      · rw [gr_dc_e (gr_en2 l9 l81 (by omega) hn (by omega) hS)] at h
        exact gr_y_two ht hy hb (by omega) (by omega) hij hj ⟨gr_nb _, h⟩
    · rw [gr_dc_e (gr_en1 (show 0 < r by omega) l9 (by omega)), show r - 1 = r % 9 - 1 by omega] at h
      exact gr_y_sign ht hy hb (by omega) hij hj ⟨gr_nb _, h⟩
/-! the reference: one rule filled in, all rules, all rounds -/
theorem gr_y_fill1 {post : Int32 → SY → Prop} {J : Int32 → Int32 → (Nat → Int32) → (Nat → Int32) → (Nat → Int32) → (Nat → Int32) → Prop}
    {b0 b1 bl br ty : Nat → Int32} {c : Nat} {L R : Nat → Nat} {n : Nat} {t : Nat → Nat} {g1 : Int32} (hG : gr_G c L R) (ht : gr_tx n t)
    (hl : gr_A bl L c) (hr : gr_A br R c) (hy : gr_A ty t n) {q i : Nat} (hq : q < c) (hi : i ≤ n) (hJ1 : gr_J c L R n t b1)
    (hg1 : gr_gx gr_cy b0 b1 g1 (gr_Qy n t b0 (L q) (R q) i i))
    (H : ∀ g b, gr_J c L R n t b → gr_gx gr_cy b0 b g (gr_Qy n t b0 (L q) (R q) (i + 1) (i + 1)) → J g (nI (i + 1)) bl br ty b) :
    ∃ m, wY_fill_21 post J (nI q) (nI i) (nI c) (nI n) m g1 (nI i) bl br ty b1 := by
  have hn := ht.1
  have hc := hG.1
  have hL := gr_G_L hG q hq
  refine pk_loop (fun m j (s : Int32 × (Nat → Int32)) => wY_fill_21 post J (nI q) (nI i) (nI c) (nI n) m s.1 (nI j) bl br ty s.2)
    (fun j s => i ≤ j ∧ gr_J c L R n t s.2 ∧ gr_gx gr_cy b0 s.2 s.1 (gr_Qy n t b0 (L q) (R q) i j)) (n + 1) i (g1, b1) (by omega)
    ⟨Nat.le_refl i, hJ1, hg1⟩ ?_ ?_
  · intro m s hs
    obtain ⟨g, b⟩ := s
    dsimp only at hs ⊢
    obtain ⟨ij, hJ, hg⟩ := hs
    exact br_t (nI_lt (by omega) (by omega)) (nm_r (nI_1 i) (H g b hJ (gr_gx_k hg (fun _ z => gr_Qy_i z (by omega)))))
  · intro m j s hj hs k
    obtain ⟨g, b⟩ := s
    dsimp only at hs ⊢
    obtain ⟨ij, hJ, hg⟩ := hs
    refine br_f (nI_nlt (by omega) (by omega)) (br_f (nI_ge (b := 9) (by omega) (by decide)) ⟨vp_in_nI (by omega) (by decide), ?_⟩)
    rw [nI_clamp (n := q) (by omega), hl q hq, hr q hq]
    refine nm_r (gr_i81 (L q) i j) ?_
    rw [nI_clamp (n := 81 * L q + 9 * i + j) (by omega)]
    refine ⟨vp_in_nI (by omega) (by decide), ?_⟩
    rcases hJ.1 (81 * L q + 9 * i + j) (by omega) with e | e
    · refine br_t e ⟨vp_in_nI (by omega) (by decide), ?_⟩
      refine gr_y_row ht hy hJ.1 (gr_J_sup hG hJ) (hG.2 q hq).2 ij (by omega) ?_
      by_cases z : gr_en (gr_Sb n t b) (R q) i j
      · rw [gr_dc_t z]
        refine br_f (by decide) ⟨vp_in_nI (by omega) (by decide), nm_e (nm_r (nI_1 j) ?_)⟩
        exact k (1, upd b (81 * L q + 9 * i + j) 1) ⟨by omega, gr_J_st hG hn hJ hq hi (by omega) z, gr_gx_g hg (gr_cy_st (by omega) e)⟩
      · rw [gr_dc_f z]
        refine br_t (by decide) (nm_r (nI_1 j) ?_)
        refine k (g, b) ⟨by omega, hJ, gr_gx_k hg (fun eb y => gr_Qy_s y (fun w => ?_))⟩
        subst eb
        exact absurd w z
    · refine br_f (by rw [e]; decide) (nm_r (nI_1 j) ?_)
      refine k (g, b) ⟨by omega, hJ, gr_gx_k hg (fun eb y => gr_Qy_s y (fun w => ?_))⟩
      subst eb
      exact e
theorem gr_y_fill {post : Int32 → SY → Prop} {b0 bl br ty : Nat → Int32} {c : Nat} {L R : Nat → Nat} {n : Nat} {t : Nat → Nat}
    (hG : gr_G c L R) (ht : gr_tx n t) (hl : gr_A bl L c) (hr : gr_A br R c) (hy : gr_A ty t n) {q : Nat} (hq : q < c) (hJ0 : gr_J c L R n t b0)
    (H : ∀ g b, gr_J c L R n t b → gr_gx gr_cy b0 b g (∀ i, i ≤ n → ∀ j, i ≤ j → j ≤ n → gr_en (gr_Sb n t b0) (R q) i j →
      b0 (81 * L q + 9 * i + j) = 1) → post g (nI c, nI n, bl, br, ty, b)) :
    wpY_fill post (nI c, nI n, bl, br, ty, b0) (nI q) := by
  have hn := ht.1
  unfold wpY_fill
  dsimp only
  refine loop_0 (fun m i (s : Int32 × (Nat → Int32)) => wY_fill_4 post (nI q) (nI c) (nI n) m s.1 (nI i) bl br ty s.2)
    (fun i s => gr_J c L R n t s.2 ∧ gr_gx gr_cy b0 s.2 s.1 (gr_Qy n t b0 (L q) (R q) i i)) (n + 1) (0, b0) ⟨hJ0, gr_gx_i gr_Qy_0⟩ ?_ ?_
  · intro m s hs
    obtain ⟨g, b⟩ := s
    dsimp only at hs ⊢
    refine br_t (nI_lt (by omega) (by omega)) ⟨?_, H g b hs.1 (gr_gx_k hs.2 (fun _ z i hi j h1 h2 => z i j h1 h2 (by omega)))⟩
    rcases gr_gx_01 hs.2 with e | e <;> subst e <;> rfl
  · intro m i s hi hs k
    obtain ⟨g, b⟩ := s
    dsimp only at hs ⊢
    refine br_f (nI_nlt (by omega) (by omega)) (br_f (nI_ge (b := 9) (by omega) (by decide)) ?_)
    exact gr_y_fill1 hG ht hl hr hy hq (by omega) hs.1 hs.2 (fun g' b' h1 h2 => k (g', b') ⟨h1, h2⟩)
theorem gr_y_fillAll {post : Int32 → SY → Prop} {b0 bl br ty : Nat → Int32} {c : Nat} {L R : Nat → Nat} {n : Nat} {t : Nat → Nat}
    (hG : gr_G c L R) (ht : gr_tx n t) (hl : gr_A bl L c) (hr : gr_A br R c) (hy : gr_A ty t n) (hJ0 : gr_J c L R n t b0)
    (H : ∀ g b, gr_J c L R n t b → gr_gx gr_cy b0 b g (gr_Cy c L R n t b0) → post g (nI c, nI n, bl, br, ty, b)) :
    wpY_fillAll post (nI c, nI n, bl, br, ty, b0) := by
  have hn := ht.1
  have hc := hG.1
  unfold wpY_fillAll
  dsimp only
  refine loop_0 (fun m r (s : Int32 × (Nat → Int32)) => wY_fillAll_4 post m s.1 (nI r) (nI c) (nI n) bl br ty s.2)
    (fun r s => gr_J c L R n t s.2 ∧ gr_gx gr_cy b0 s.2 s.1 (gr_Cy r L R n t b0)) c (0, b0)
    ⟨hJ0, gr_gx_i (fun q hq => absurd hq (by omega))⟩ ?_ ?_
  · intro m s hs
    obtain ⟨g, b⟩ := s
    dsimp only at hs ⊢
    refine br_t (nI_le (Nat.le_refl c) (by omega)) ⟨?_, H g b hs.1 hs.2⟩
    rcases gr_gx_01 hs.2 with e | e <;> subst e <;> rfl
  · intro m r s hi hs k
    obtain ⟨g, b⟩ := s
    dsimp only at hs ⊢
    refine br_f (nI_ge hi (by omega)) (br_f (nI_ge (b := 12) (by omega) (by decide)) ?_)
    refine gr_y_fill hG ht hl hr hy hi hs.1 (fun g' b' hJ' hg' => ?_)
    dsimp only
    by_cases e : g' = 0
    · refine br_t e (nm_r (nI_1 r) ?_)
      refine k (g, b') ⟨hJ', gr_gx_z hs.2 hg' e (fun eb q0 q1 q hq i hi' j h1 h2 hj => ?_)⟩
      subst eb
      by_cases eq : q = r
      · subst eq
        exact q1 i hi' j h1 h2 hj
      · exact q0 q (by omega) i hi' j h1 h2 hj
    · refine br_f e (nm_r (nI_1 r) ?_)
      exact k (1, b') ⟨hJ', gr_gx_t hs.2 hg' e⟩
theorem gr_y_rounds {post : SY → Prop} {b0 bl br ty : Nat → Int32} {c : Nat} {L R : Nat → Nat} {n : Nat} {t : Nat → Nat}
    (hG : gr_G c L R) (ht : gr_tx n t) (hl : gr_A bl L c) (hr : gr_A br R c) (hy : gr_A ty t n) (hJ0 : gr_J c L R n t b0)
    (H : ∀ b, gr_YS c L R n t b → post (nI c, nI n, bl, br, ty, b)) :
    ∃ m, wY_work_26 post m 1 0 (nI c) (nI n) bl br ty b0 := by
  have hn := ht.1
  refine loop_0 (fun m p (s : Int32 × (Nat → Int32)) => wY_work_26 post m s.1 (nI p) (nI c) (nI n) bl br ty s.2)
    (fun p s => gr_J c L R n t s.2 ∧ gr_pp gr_cy p s.2 s.1 (gr_Cy c L R n t s.2)) 300 (1, b0) ⟨hJ0, Or.inl ⟨rfl, Nat.zero_le _⟩⟩ ?_ ?_
  · intro m s hs
    obtain ⟨g, b⟩ := s
    dsimp only at hs ⊢
    refine br_t (nI_le (a := 300) (b := 300) (by omega) (by decide)) (H b ?_)
    rcases hs.2 with ⟨_, h2⟩ | ⟨_, h2⟩
    · have := gr_cy_b hG hs.1
      exact absurd h2 (by omega)
    · exact gr_YS_of hG hn hs.1 h2
  · intro m p s hi hs k
    obtain ⟨g, b⟩ := s
    dsimp only at hs ⊢
    refine br_f (nI_ge (b := 300) hi (by decide)) ?_
    rcases hs.2 with ⟨h1, h2⟩ | ⟨h1, h2⟩
    · refine br_f (by rw [h1]; decide) ?_
      refine gr_y_fillAll hG ht hl hr hy hs.1 (fun g' b' hJ' hg' => ?_)
      dsimp only
      refine nm_r (nI_1 p) ?_
      exact k (g', b') ⟨hJ', gr_pp_s h2 hg' (fun e q => by rw [e]; exact q)⟩
    · exact br_t h1 (H b (gr_YS_of hG hn hs.1 h2))
theorem gr_y_work {post : SY → Prop} {b0 bl br ty : Nat → Int32} {c : Nat} {L R : Nat → Nat} {n : Nat} {t : Nat → Nat}
    (hG : gr_G c L R) (ht : gr_tx n t) (hl : gr_A bl L c) (hr : gr_A br R c) (hy : gr_A ty t n)
    (H : ∀ b, gr_YS c L R n t b → post (nI c, nI n, bl, br, ty, b)) : wpY_work post (nI c, nI n, bl, br, ty, b0) := by
  unfold wpY_work
  dsimp only
  refine loop_0 (fun m i (s : Nat → Int32) => wY_work_2 post (nI c) (nI n) m (nI i) bl br ty s) (fun i s => ∀ q, q < i → s q = 0) 405 b0
    (fun q hq => absurd hq (by omega)) ?_ ?_
  · intro m s hs
    exact br_t (nI_le (a := 405) (b := 405) (by omega) (by decide)) (gr_y_rounds hG ht hl hr hy (gr_J_0 hs) H)
  · intro m i s hi hs k
    refine br_f (nI_ge (b := 405) hi (by decide)) ⟨vp_in_nI hi (by decide), ?_⟩
    rw [nI_clamp (n := i) (by omega)]
    refine nm_e (nm_r (nI_1 i) ?_)
    refine k _ (fun q hq => ?_)
    by_cases e : q = i
    · rw [e, pk_us]
      rfl
    · rw [pk_un e]
      exact hs q (by omega)
/-! after the work: what a sign and a row answer -/
theorem gr_y_signS {post : Int32 → Prop} {b bl br ty : Nat → Int32} {c : Nat} {L R : Nat → Nat} {n : Nat} {t : Nat → Nat} {cn ln : Int32}
    (ht : gr_tx n t) (hy : gr_A ty t n) (hb : gr_YS c L R n t b) {s i j : Nat} (hs : s < 8) (hij : i ≤ j) (hj : j ≤ n)
    (h : post (gr_vb (gr_B c L R n t s i j))) : wpY_signFits post (cn, ln, bl, br, ty, b) (nI s) (nI i) (nI j) := by
  refine gr_y_sign ht hy hb.1 hs hij hj ?_
  rw [hb.2]
  exact h
theorem gr_y_rowS {post : Int32 → Prop} {b bl br ty : Nat → Int32} {c : Nat} {L R : Nat → Nat} {n : Nat} {t : Nat → Nat} {cn ln : Int32}
    (hG : gr_G c L R) (ht : gr_tx n t) (hy : gr_A ty t n) (hb : gr_YS c L R n t b) {r i j : Nat} (hg : gr_gd r) (hij : i ≤ j) (hj : j ≤ n)
    (h : post (gr_vb (gr_E c L R n t r i j))) : wpY_rowFits post (cn, ln, bl, br, ty, b) (nI r) (nI i) (nI j) := by
  refine gr_y_row ht hy hb.1 (by rw [hb.2]; exact gr_S_sup (gr_G_L hG)) hg hij hj ?_
  rw [hb.2]
  exact h
end
section
/-- both sides hold the same rules and the same text; X's sets and the reference's table are free -/
def i_Rel (k : Nat) (u : SX) (v : SY) : Prop :=
  ∃ (c n : Nat) (L R t : Nat → Nat) (al ar tx a bl br ty b : Nat → Int32),
    u = (nI c, nI n, al, ar, tx, a) ∧ v = (nI c, nI n, bl, br, ty, b) ∧ gr_G c L R ∧ gr_tx n t ∧
    (gr_A al L c ∧ gr_A ar R c ∧ gr_A tx t n) ∧ (gr_A bl L c ∧ gr_A br R c ∧ gr_A ty t n)
theorem gr_mk {k c n : Nat} {L R t : Nat → Nat} {al ar tx a bl br ty b : Nat → Int32} (hG : gr_G c L R) (ht : gr_tx n t)
    (hX : gr_A al L c ∧ gr_A ar R c ∧ gr_A tx t n) (hY : gr_A bl L c ∧ gr_A br R c ∧ gr_A ty t n) :
    i_Rel k (nI c, nI n, al, ar, tx, a) (nI c, nI n, bl, br, ty, b) :=
  ⟨c, n, L, R, t, al, ar, tx, a, bl, br, ty, b, rfl, rfl, hG, ht, hX, hY⟩
theorem i_up {k : Nat} {u : SX} {v : SY} (h : i_Rel k u v) : i_Rel (k + 4) u v := h
theorem i_vc0 : wpX_init (fun u => wpY_init (fun v => i_Rel 0 u v)) :=
  gr_mk (k := 0) (c := 0) (n := 0) (L := fun _ => 0) (R := fun _ => 0) (t := fun _ => 0)
    ⟨by omega, fun q hq => absurd hq (by omega)⟩ ⟨by omega, fun q hq => absurd hq (by omega)⟩
    ⟨fun q hq => absurd hq (by omega), fun q hq => absurd hq (by omega), fun q hq => absurd hq (by omega)⟩
    ⟨fun q hq => absurd hq (by omega), fun q hq => absurd hq (by omega), fun q hq => absurd hq (by omega)⟩
theorem gr_ng (x : Int32) : x < 0 ∨ ∃ j : Nat, j < 2 ^ 31 ∧ x = nI j := by
  by_cases h : x < 0
  · exact Or.inl h
  · exact Or.inr (nI_of h)
theorem gr_lt5 {x : Int32} (h : x < 0) : x < 5 := Int32.lt_trans h (by decide)
/-! names, signs, rules, stretches, right sides -/
theorem gr_x_name {post : Int32 → Prop} {s : Nat} (hs : s < 2 ^ 31) (h0 : 5 ≤ s → post 0) (h1 : s < 5 → post 1) : wpX_isName post (nI s) :=
  br_f (nI_pos hs) (pk_le 5 s h0 h1)
theorem gr_x_nameN {post : Int32 → Prop} {x : Int32} (h : x < 0) (h0 : post 0) : wpX_isName post x := br_t h h0
theorem gr_x_sign {post : Int32 → Prop} {s : Nat} (hs : s < 2 ^ 31) (h0 : 8 ≤ s → post 0) (h1 : s < 8 → post 1) : wpX_isSign post (nI s) :=
  br_f (nI_pos hs) (pk_le 8 s h0 h1)
theorem gr_x_signN {post : Int32 → Prop} {x : Int32} (h : x < 0) (h0 : post 0) : wpX_isSign post x := br_t h h0
theorem gr_y_bsign {post : Int32 → Prop} {u : SY} {s : Nat} (hs : s < 2 ^ 31) (h1 : 8 ≤ s → post 1) (h0 : s < 8 → post 0) :
    wpY_badSign post u (nI s) := by
  obtain ⟨cn, ln, bl, br, ty, b⟩ := u
  exact br_f (nI_pos hs) (pk_le s 7 (fun l => h0 (by omega)) (fun l => h1 (by omega)))
theorem gr_y_bsignN {post : Int32 → Prop} {u : SY} {x : Int32} (h : x < 0) (h1 : post 1) : wpY_badSign post u x := by
  obtain ⟨cn, ln, bl, br, ty, b⟩ := u
  exact br_t h h1
theorem gr_x_rule {post : Int32 → Prop} {al ar tx a : Nat → Int32} {tl : Int32} {c r : Nat} (hc : c ≤ 12) (hr : r < 2 ^ 31)
    (h0 : c ≤ r → post 0) (h1 : r < c → post 1) : wpX_isRule post (nI c, tl, al, ar, tx, a) (nI r) :=
  br_f (nI_pos hr) (pk_le c r h0 h1)
theorem gr_x_ruleN {post : Int32 → Prop} {u : SX} {x : Int32} (h : x < 0) (h0 : post 0) : wpX_isRule post u x := by
  obtain ⟨cn, ln, bl, br, ty, b⟩ := u
  exact br_t h h0
theorem gr_y_brule {post : Int32 → Prop} {bl br ty b : Nat → Int32} {ln : Int32} {c r : Nat} (hc : c ≤ 12) (hr : r < 2 ^ 31)
    (h1 : c ≤ r → post 1) (h0 : r < c → post 0) : wpY_badRule post (nI c, ln, bl, br, ty, b) (nI r) :=
  br_f (nI_pos hr) (pk_le c r h1 (fun l => pk_le r 11 (fun _ => h0 l) (fun z => absurd z (by omega))))
theorem gr_y_bruleN {post : Int32 → Prop} {u : SY} {x : Int32} (h : x < 0) (h1 : post 1) : wpY_badRule post u x := by
  obtain ⟨cn, ln, bl, br, ty, b⟩ := u
  exact br_t h h1
def gr_bad (n : Nat) (x y : Int32) : Prop := x < 0 ∨ y < x ∨ nI n < y
theorem gr_src {n : Nat} (hn : n ≤ 8) (x y : Int32) : gr_bad n x y ∨ ∃ i j, i ≤ j ∧ j ≤ n ∧ x = nI i ∧ y = nI j := by
  by_cases h1 : x < 0
  · exact Or.inl (Or.inl h1)
  · by_cases h2 : y < x
    · exact Or.inl (Or.inr (Or.inl h2))
    · by_cases h3 : nI n < y
      · exact Or.inl (Or.inr (Or.inr h3))
      · have h4 : ¬ y < 0 := by
          rw [Int32.lt_iff_toInt_lt] at h1 h2 ⊢
          omega
        obtain ⟨i, hi, rfl⟩ := nI_of h1
        obtain ⟨j, hj, rfl⟩ := nI_of h4
        rw [nI_ltI hj hi] at h2
        rw [nI_ltI (by omega) hj] at h3
        exact Or.inr ⟨i, j, by omega, by omega, rfl, rfl⟩
theorem gr_x_str1 {post : Int32 → Prop} {al ar tx a : Nat → Int32} {rc : Int32} {n i j : Nat} (hn : n ≤ 8) (hij : i ≤ j) (hj : j ≤ n)
    (h : post 1) : wpX_isStretch post (rc, nI n, al, ar, tx, a) (nI i) (nI j) :=
  br_f (nI_pos (by omega)) (br_f (nI_nlt hij (by omega)) (br_f (nI_nlt hj (by omega)) h))
theorem gr_x_str0 {post : Int32 → Prop} {al ar tx a : Nat → Int32} {rc x y : Int32} {n : Nat} (hb : gr_bad n x y)
    (h : post 0) : wpX_isStretch post (rc, nI n, al, ar, tx, a) x y :=
  br_c (fun _ => h) (fun h1 => br_c (fun _ => h) (fun h2 => br_c (fun _ => h) (fun h3 => by
    rcases hb with b | b | b
    · exact absurd b h1
    · exact absurd b h2
    · exact absurd b h3)))
theorem gr_y_str1 {post : Int32 → Prop} {bl br ty b : Nat → Int32} {cn : Int32} {n i j : Nat} (hn : n ≤ 8) (hij : i ≤ j) (hj : j ≤ n)
    (h : post 0) : wpY_badStretch post (cn, nI n, bl, br, ty, b) (nI i) (nI j) :=
  br_f (nI_pos (by omega)) (br_f (nI_nlt hij (by omega)) (br_t (nI_le hj (by omega)) h))
theorem gr_y_str0 {post : Int32 → Prop} {bl br ty b : Nat → Int32} {cn x y : Int32} {n : Nat} (hb : gr_bad n x y)
    (h : post 1) : wpY_badStretch post (cn, nI n, bl, br, ty, b) x y :=
  br_c (fun _ => h) (fun h1 => br_c (fun _ => h) (fun h2 => br_c (fun h3 => by
    rcases hb with b | b | b
    · exact absurd b h1
    · exact absurd b h2
    · exact absurd b (Int32.not_lt.mpr h3)) (fun _ => h)))
theorem gr_x_r28 {post : Int32 → Prop} {r : Nat} (hr : r < 729) (h9 : 9 ≤ r → r % 9 ≠ 0) (h1 : gr_gd r → post 1) (h0 : ¬ gr_gd r → post 0) :
    wX_isRightSide_28 post (nI r) := by
  unfold wX_isRightSide_28
  rw [gr_dm9 hr]
  refine pk_lt r 81 (fun l => h1 ⟨hr, h9, fun z => absurd z (by omega)⟩) (fun l => ⟨by decide, by decide, ?_⟩)
  exact pk_eq (r / 9 % 9) 0 (fun e => h0 (fun g => g.2.2 l e)) (fun e => h1 ⟨hr, h9, fun _ => e⟩)
theorem gr_x_right {post : Int32 → Prop} {r : Nat} (hr : r < 2 ^ 31) (h1 : gr_gd r → post 1) (h0 : ¬ gr_gd r → post 0) :
    wpX_isRightSide post (nI r) := by
  unfold wpX_isRightSide
  refine br_f (nI_pos hr) (pk_lt r 729 (fun l => ?_) (fun l => h0 (fun g => absurd g.1 (by omega))))
  rw [gr_m9 l]
  refine pk_lt r 9 (fun l9 => gr_x_r28 l (fun z => absurd z (by omega)) h1 h0) (fun l9 => ⟨by decide, ?_⟩)
  exact pk_eq (r % 9) 0 (fun e => h0 (fun g => g.2.1 l9 e)) (fun e => gr_x_r28 l (fun _ => e) h1 h0)
theorem gr_x_rightN {post : Int32 → Prop} {x : Int32} (h : x < 0) (h0 : post 0) : wpX_isRightSide post x := br_t h h0
theorem gr_y_b42 {post : Int32 → Prop} {cn ln : Int32} {bl br ty b : Nat → Int32} {r : Nat} (hr : r < 729) (h : post 0) :
    wY_badRow_42 post (nI r) cn ln bl br ty b := by
  unfold wY_badRow_42
  rw [gr_d81 hr]
  exact pk_le r 80 (fun _ => h) (fun l => ⟨by decide, pk_eq (r / 81) 0 (fun e => absurd e (by omega)) (fun _ => h)⟩)
theorem gr_y_bad {post : Int32 → Prop} {cn ln : Int32} {bl br ty b : Nat → Int32} {r : Nat} (hr : r < 2 ^ 31) (h0 : gr_gd r → post 0)
    (h1 : ¬ gr_gd r → post 1) : wpY_badRow post (cn, ln, bl, br, ty, b) (nI r) := by
  unfold wpY_badRow
  dsimp only
  refine br_f (nI_pos hr) (pk_le r 728 (fun l => ?_) (fun l => h1 (fun g => absurd g.1 (by omega))))
  have hr' : r < 729 := by omega
  rw [gr_m9 hr', gr_dm9 hr']
  refine pk_eq r 0 (fun e => h0 ⟨hr', fun z => absurd z (by omega), fun z => absurd z (by omega)⟩) (fun e => ⟨by decide, ?_⟩)
  refine pk_eq (r % 9) 0 (fun e9 => h1 (fun g => g.2.1 (by omega) e9)) (fun e9 => ?_)
  refine pk_le r 8 (fun l8 => gr_y_b42 hr' (h0 ⟨hr', fun _ => e9, fun z => absurd z (by omega)⟩)) (fun l8 => ⟨by decide, by decide, ?_⟩)
  exact pk_eq (r / 9 % 9) 0 (fun e99 => h1 (fun g => g.2.2 (by omega) e99))
    (fun e99 => gr_y_b42 hr' (h0 ⟨hr', fun _ => e9, fun _ => e99⟩))
theorem gr_y_badN {post : Int32 → Prop} {u : SY} {x : Int32} (h : x < 0) (h1 : post 1) : wpY_badRow post u x := by
  obtain ⟨cn, ln, bl, br, ty, b⟩ := u
  exact br_t h h1
/-! rule -/
theorem gr_x_rput {post : Int32 → SX → Prop} {tl : Int32} {al ar tx a : Nat → Int32} {c s r : Nat} (hc : c ≤ 12) (hs : s < 5) (hr : gr_gd r)
    (h : c < 12 → post (nI (c + 1) - 1) (nI (c + 1), tl, upd al c (nI s), upd ar c (nI r), tx, a))
    (h3 : 12 ≤ c → post (-3) (nI c, tl, al, ar, tx, a)) : wpX_rule post (nI c, tl, al, ar, tx, a) (nI s) (nI r) := by
  have hr' := hr.1
  unfold wpX_rule
  dsimp only
  refine gr_x_name (by omega) (fun z => absurd z (by omega)) (fun _ => br_f (by decide) ?_)
  refine gr_x_right (by omega) (fun _ => br_f (by decide) ?_) (fun z => absurd hr z)
  rw [nI_clamp (n := c) (by omega)]
  exact pk_lt c 12 (fun l => ⟨vp_in_nI l (by decide), nm_e ⟨vp_in_nI l (by decide), nm_e (nm_r (nI_1 c) (h l))⟩⟩) h3
theorem gr_y_rput {post : Int32 → SY → Prop} {ln : Int32} {bl br ty b : Nat → Int32} {c s r : Nat} (hc : c ≤ 12) (hs : s < 5) (hr : gr_gd r)
    (h : c < 12 → post (nI c) (nI (c + 1), ln, upd bl c (nI s), upd br c (nI r), ty, b))
    (h3 : 12 ≤ c → post (-3) (nI c, ln, bl, br, ty, b)) : wpY_rule post (nI c, ln, bl, br, ty, b) (nI s) (nI r) := by
  have hr' := hr.1
  unfold wpY_rule
  dsimp only
  refine br_f (nI_pos (by omega)) (pk_le s 4 (fun _ => ?_) (fun z => absurd z (by omega)))
  refine gr_y_bad (by omega) (fun _ => br_t rfl ?_) (fun z => absurd hr z)
  rw [nI_clamp (n := c) (by omega)]
  exact pk_le c 11 (fun l => ⟨vp_in_nI (by omega) (by decide), nm_e ⟨vp_in_nI (by omega) (by decide), nm_e (nm_r (nI_1 c) (h (by omega)))⟩⟩)
    (fun l => h3 (by omega))
theorem i_vc_rule {k : Nat} {u : SX} {v : SY} (I : i_Rel k u v) (hk : k + 4 ≤ 2048) (v1 : Int32) (v2 : Int32) : wpX_rule (fun r u' => wpY_rule (fun r' v' => r' = r ∧ i_Rel (k + 4) u' v') v v1 v2) u v1 v2 := by
  obtain ⟨c, n, L, R, t, al, ar, tx, a, bl, br, ty, b, rfl, rfl, hG, ht, hX, hY⟩ := I
  have hc := hG.1
  have M : i_Rel (k + 4) (nI c, nI n, al, ar, tx, a) (nI c, nI n, bl, br, ty, b) := gr_mk hG ht hX hY
  rcases gr_ng v1 with h | ⟨s, hs, rfl⟩
  · unfold wpX_rule wpY_rule
    dsimp only
    exact gr_x_nameN h (br_t rfl (br_t h ⟨rfl, M⟩))
  · by_cases h5 : s < 5
    · rcases gr_ng v2 with h | ⟨r, hr, rfl⟩
      · unfold wpX_rule wpY_rule
        dsimp only
        refine gr_x_name hs (fun z => absurd z (by omega)) (fun _ => br_f (by decide) ?_)
        refine gr_x_rightN h (br_t rfl ?_)
        exact br_f (nI_pos hs) (pk_le s 4 (fun _ => gr_y_badN h (br_f (by decide) ⟨rfl, M⟩)) (fun z => absurd z (by omega)))
      · by_cases hg : gr_gd r
        · refine gr_x_rput hc h5 hg (fun l => ?_) (fun l => ?_)
          · refine gr_y_rput hc h5 hg (fun _ => ⟨(nI_pred c).symm, ?_⟩) (fun z => absurd z (by omega))
            exact gr_mk (gr_G_up hG l h5 hg) ht ⟨gr_A_up hX.1, gr_A_up hX.2.1, hX.2.2⟩ ⟨gr_A_up hY.1, gr_A_up hY.2.1, hY.2.2⟩
          · exact gr_y_rput hc h5 hg (fun z => absurd z (by omega)) (fun _ => ⟨rfl, M⟩)
        · unfold wpX_rule wpY_rule
          dsimp only
          refine gr_x_name hs (fun z => absurd z (by omega)) (fun _ => br_f (by decide) ?_)
          refine gr_x_right hr (fun z => absurd z hg) (fun _ => br_t rfl ?_)
          exact br_f (nI_pos hs) (pk_le s 4 (fun _ => gr_y_bad hr (fun z => absurd z hg) (fun _ => br_f (by decide) ⟨rfl, M⟩)) (fun z => absurd z (by omega)))
    · unfold wpX_rule wpY_rule
      dsimp only
      refine gr_x_name hs (fun _ => br_t rfl ?_) (fun z => absurd z h5)
      exact br_f (nI_pos hs) (pk_le s 4 (fun z => absurd z (by omega)) (fun _ => ⟨rfl, M⟩))
/-! drop -/
theorem gr_x_drop {post : Int32 → SX → Prop} {tl : Int32} {al ar tx a : Nat → Int32} {c r0 : Nat} (hc : c ≤ 12) (hr : r0 < c)
    (h : post (nI (c - 1)) (nI (c - 1), tl, gr_sh al r0 (c - 1), gr_sh ar r0 (c - 1), tx, a)) :
    ∃ m, wX_drop_12 post (nI c) tl m (nI r0) al ar tx a := by
  suffices h0 : ∃ m, wX_drop_12 post (nI c) tl m (nI r0) (gr_sh al r0 r0) (gr_sh ar r0 r0) tx a by
    rw [gr_sh_0, gr_sh_0] at h0
    exact h0
  have ec : nI c - 1 = nI (c - 1) := gr_p1 (by omega)
  refine pk_loop (fun m r (_ : Unit) => wX_drop_12 post (nI c) tl m (nI r) (gr_sh al r0 r) (gr_sh ar r0 r) tx a) (fun r _ => r0 ≤ r) (c - 1) r0 ()
    (by omega) (Nat.le_refl r0) ?_ ?_
  · intro m _ _
    exact br_t (by rw [ec]; exact nI_le (Nat.le_refl _) (by omega)) (nm_r ec h)
  · intro m r _ hi hs k
    refine br_f (by rw [ec]; exact nI_ge hi (by omega)) ?_
    rw [nI_1 r, nI_clamp (n := r + 1) (by omega), nI_clamp (n := r) (by omega)]
    refine ⟨vp_in_nI (by omega) (by decide), vp_in_nI (by omega) (by decide), nm_r (gr_sh_s al hs) ?_⟩
    refine ⟨vp_in_nI (by omega) (by decide), vp_in_nI (by omega) (by decide), nm_r (gr_sh_s ar hs) (nm_e ?_)⟩
    exact k () (by omega)
theorem gr_y_drop {post : Int32 → SY → Prop} {tl : Int32} {al ar tx a : Nat → Int32} {c r0 : Nat} (hc : c ≤ 12) (hr : r0 < c)
    (h : post (nI (c - 1)) (nI (c - 1), tl, gr_sh al r0 (c - 1), gr_sh ar r0 (c - 1), tx, a)) :
    ∃ m, wY_drop_12 post (nI c) tl m (nI r0) al ar tx a := by
  suffices h0 : ∃ m, wY_drop_12 post (nI c) tl m (nI r0) (gr_sh al r0 r0) (gr_sh ar r0 r0) tx a by
    rw [gr_sh_0, gr_sh_0] at h0
    exact h0
  have ec : nI c - 1 = nI (c - 1) := gr_p1 (by omega)
  refine pk_loop (fun m r (_ : Unit) => wY_drop_12 post (nI c) tl m (nI r) (gr_sh al r0 r) (gr_sh ar r0 r) tx a) (fun r _ => r0 ≤ r) (c - 1) r0 ()
    (by omega) (Nat.le_refl r0) ?_ ?_
  · intro m _ _
    exact br_t (by rw [ec]; exact nI_le (Nat.le_refl _) (by omega)) (nm_r ec h)
  · intro m r _ hi hs k
    refine br_f (by rw [ec]; exact nI_ge hi (by omega)) (br_f (nI_ge (b := 11) (by omega) (by decide)) ?_)
    rw [nI_1 r, nI_clamp (n := r + 1) (by omega), nI_clamp (n := r) (by omega)]
    refine ⟨vp_in_nI (by omega) (by decide), vp_in_nI (by omega) (by decide), nm_r (gr_sh_s al hs) ?_⟩
    refine ⟨vp_in_nI (by omega) (by decide), vp_in_nI (by omega) (by decide), nm_r (gr_sh_s ar hs) (nm_e ?_)⟩
    exact k () (by omega)
theorem i_vc_drop {k : Nat} {u : SX} {v : SY} (I : i_Rel k u v) (hk : k + 4 ≤ 2048) (v1 : Int32) : wpX_drop (fun r u' => wpY_drop (fun r' v' => r' = r ∧ i_Rel (k + 4) u' v') v v1) u v1 := by
  obtain ⟨c, n, L, R, t, al, ar, tx, a, bl, br, ty, b, rfl, rfl, hG, ht, hX, hY⟩ := I
  have hc := hG.1
  have M : i_Rel (k + 4) (nI c, nI n, al, ar, tx, a) (nI c, nI n, bl, br, ty, b) := gr_mk hG ht hX hY
  unfold wpX_drop
  dsimp only
  rcases gr_ng v1 with h | ⟨s, hs, rfl⟩
  · refine gr_x_ruleN h (br_t rfl ?_)
    unfold wpY_drop
    dsimp only
    exact gr_y_bruleN h (br_f (by decide) ⟨rfl, M⟩)
  · refine gr_x_rule hc hs (fun l => br_t rfl ?_) (fun l => br_f (by decide) ?_)
    · unfold wpY_drop
      dsimp only
      exact gr_y_brule hc hs (fun _ => br_f (by decide) ⟨rfl, M⟩) (fun z => absurd z (by omega))
    · refine gr_x_drop hc l ?_
      unfold wpY_drop
      dsimp only
      refine gr_y_brule hc hs (fun z => absurd z (by omega)) (fun _ => br_t rfl ?_)
      refine gr_y_drop hc l ⟨rfl, ?_⟩
      exact gr_mk (gr_G_dn hG l) ht ⟨gr_A_sh hX.1 l, gr_A_sh hX.2.1 l, hX.2.2⟩ ⟨gr_A_sh hY.1 l, gr_A_sh hY.2.1 l, hY.2.2⟩
/-! clear, rules, length -/
theorem i_vc_clear {k : Nat} {u : SX} {v : SY} (I : i_Rel k u v) (hk : k + 4 ≤ 2048) : wpX_clear (fun r u' => wpY_clear (fun r' v' => r' = r ∧ i_Rel (k + 4) u' v') v) u := by
  obtain ⟨c, n, L, R, t, al, ar, tx, a, bl, br, ty, b, rfl, rfl, hG, ht, hX, hY⟩ := I
  refine ⟨rfl, ?_⟩
  exact gr_mk (c := 0) (L := L) (R := R) ⟨by omega, fun q hq => absurd hq (by omega)⟩ ht
    ⟨gr_A_le hX.1 (by omega), gr_A_le hX.2.1 (by omega), hX.2.2⟩ ⟨gr_A_le hY.1 (by omega), gr_A_le hY.2.1 (by omega), hY.2.2⟩
theorem i_vc_rules {k : Nat} {u : SX} {v : SY} (I : i_Rel k u v) (hk : k + 4 ≤ 2048) : wpX_rules (fun r => wpY_rules (fun r' => r' = r ∧ i_Rel (k + 4) u v) v) u := by
  obtain ⟨c, n, L, R, t, al, ar, tx, a, bl, br, ty, b, rfl, rfl, hG, ht, hX, hY⟩ := I
  exact ⟨rfl, gr_mk hG ht hX hY⟩
theorem i_vc_length {k : Nat} {u : SX} {v : SY} (I : i_Rel k u v) (hk : k + 4 ≤ 2048) : wpX_length (fun r => wpY_length (fun r' => r' = r ∧ i_Rel (k + 4) u v) v) u := by
  obtain ⟨c, n, L, R, t, al, ar, tx, a, bl, br, ty, b, rfl, rfl, hG, ht, hX, hY⟩ := I
  exact ⟨rfl, gr_mk hG ht hX hY⟩
/-! push, pop -/
theorem i_vc_push {k : Nat} {u : SX} {v : SY} (I : i_Rel k u v) (hk : k + 4 ≤ 2048) (v1 : Int32) : wpX_push (fun r u' => wpY_push (fun r' v' => r' = r ∧ i_Rel (k + 4) u' v') v v1) u v1 := by
  obtain ⟨c, n, L, R, t, al, ar, tx, a, bl, br, ty, b, rfl, rfl, hG, ht, hX, hY⟩ := I
  have hn := ht.1
  have M : i_Rel (k + 4) (nI c, nI n, al, ar, tx, a) (nI c, nI n, bl, br, ty, b) := gr_mk hG ht hX hY
  unfold wpX_push wpY_push
  dsimp only
  rcases gr_ng v1 with h | ⟨s, hs, rfl⟩
  · exact br_t (gr_lt5 h) (br_t (gr_lt5 h) ⟨rfl, M⟩)
  · rw [nI_clamp (n := n) (by omega)]
    refine pk_lt s 5 (fun l => pk_lt s 5 (fun _ => ⟨rfl, M⟩) (fun z => absurd z (by omega))) (fun l5 => ?_)
    refine pk_lt s 8 (fun l8 => ?_) (fun l => ?_)
    · refine pk_lt n 8 (fun ln => ⟨vp_in_nI ln (by decide), nm_e (nm_r (nI_1 n) ?_)⟩) (fun ln => ?_)
      · refine pk_lt s 5 (fun z => absurd z (by omega)) (fun _ => pk_le s 7 (fun _ => ?_) (fun z => absurd z (by omega)))
        refine pk_le n 7 (fun _ => ⟨vp_in_nI ln (by decide), nm_e (nm_r (nI_1 n) ⟨rfl, ?_⟩)⟩) (fun z => absurd z (by omega))
        exact gr_mk hG (gr_tx_up ht ln l5 (by omega)) ⟨hX.1, hX.2.1, gr_A_up hX.2.2⟩ ⟨hY.1, hY.2.1, gr_A_up hY.2.2⟩
      · refine pk_lt s 5 (fun z => absurd z (by omega)) (fun _ => pk_le s 7 (fun _ => ?_) (fun z => absurd z (by omega)))
        exact pk_le n 7 (fun z => absurd z (by omega)) (fun _ => ⟨rfl, M⟩)
    · exact pk_lt s 5 (fun z => absurd z (by omega)) (fun _ => pk_le s 7 (fun z => absurd z (by omega)) (fun _ => ⟨rfl, M⟩))
theorem i_vc_pop {k : Nat} {u : SX} {v : SY} (I : i_Rel k u v) (hk : k + 4 ≤ 2048) : wpX_pop (fun r u' => wpY_pop (fun r' v' => r' = r ∧ i_Rel (k + 4) u' v') v) u := by
  obtain ⟨c, n, L, R, t, al, ar, tx, a, bl, br, ty, b, rfl, rfl, hG, ht, hX, hY⟩ := I
  have hn := ht.1
  have M : i_Rel (k + 4) (nI c, nI n, al, ar, tx, a) (nI c, nI n, bl, br, ty, b) := gr_mk hG ht hX hY
  unfold wpX_pop wpY_pop
  dsimp only
  refine pk_lt 0 n (fun l => nm_r (gr_p1 l) ?_) (fun l => ?_)
  · rw [nI_clamp (n := n - 1) (by omega)]
    refine ⟨vp_in_nI (by omega) (by decide), pk_eq n 0 (fun z => absurd z (by omega)) (fun _ => nm_r (gr_p1 l) ?_)⟩
    rw [nI_clamp (n := n - 1) (by omega)]
    refine ⟨vp_in_nI (by omega) (by decide), ?_, ?_⟩
    · rw [hX.2.2 (n - 1) (by omega), hY.2.2 (n - 1) (by omega)]
    · exact gr_mk hG ⟨by omega, fun i hi => ht.2 i (by omega)⟩ ⟨hX.1, hX.2.1, gr_A_le hX.2.2 (by omega)⟩ ⟨hY.1, hY.2.1, gr_A_le hY.2.2 (by omega)⟩
  · exact pk_eq n 0 (fun _ => ⟨rfl, M⟩) (fun z => absurd z (by omega))
end
section
/-! write -/
theorem gr_p3 {m : Nat} (hm : m ≤ 8) : 3 ^ m < 2 ^ 31 := by
  have h : 3 ^ m ≤ 3 ^ 8 := Nat.pow_le_pow_right (by decide) hm
  have e : (3 : Nat) ^ 8 = 6561 := by decide
  omega
theorem gr_x_texts {post : Int32 → Prop} {m : Nat} (hm : m ≤ 8) (h : post (nI (3 ^ m))) : wpX_textsOfLength post (nI m) := by
  unfold wpX_textsOfLength
  refine loop_0 (fun f i (s : Int32) => wX_textsOfLength_4 post (nI m) f s (nI i)) (fun i s => s = nI (3 ^ i)) m 1 rfl ?_ ?_
  · intro f s hs
    subst hs
    exact br_t (nI_le (Nat.le_refl m) (by omega)) h
  · intro f i s hi hs k
    subst hs
    exact br_f (nI_ge hi (by omega)) (nm_r (pk_mul (3 ^ i) 3) (nm_r (nI_1 i) (k _ rfl)))
theorem gr_y_texts {post : Int32 → SY → Prop} {x cn ln : Int32} {bl br ty b : Nat → Int32} {m : Nat} (hm : m ≤ 8)
    (h : ∀ f, wY_write_17 post (nI m) x cn ln bl br ty b (f + 1) (nI (3 ^ m)) (nI m)) :
    ∃ f, wY_write_17 post (nI m) x cn ln bl br ty b f 1 0 := by
  refine loop_0 (fun f i (s : Int32) => wY_write_17 post (nI m) x cn ln bl br ty b f s (nI i)) (fun i s => s = nI (3 ^ i)) m 1 rfl ?_ ?_
  · intro f s hs
    subst hs
    exact h f
  · intro f i s hi hs k
    subst hs
    have e : (3 : Int32) * nI (3 ^ i) = nI (3 ^ (i + 1)) := by
      rw [Nat.pow_succ, Nat.mul_comm]
      exact pk_mul 3 (3 ^ i)
    exact br_f (nI_ge hi (by omega)) (nm_r e (nm_r (nI_1 i) (k _ rfl)))
theorem gr_m1 (p : Nat) : nI p + (-1) = nI p - 1 := (Int32.sub_eq_add_neg (nI p) 1).symm
theorem gr_x_w34 {post : Int32 → SX → Prop} {rc tl : Int32} {al ar a : Nat → Int32} {m : Nat} : ∀ (p w : Nat) (tx : Nat → Int32), p ≤ 8 → w < 2 ^ 31 →
    post (nI m) (rc, nI m, al, ar, gr_lay p w tx, a) → wX_write_34 post (nI m) rc tl (p + 1) (nI w) (nI p - 1) al ar tx a := by
  intro p
  induction p with
  | zero =>
    intro w tx _ _ h
    exact br_t (by decide) h
  | succ p ih =>
    intro w tx hp hw h
    rw [nI_pred p]
    refine br_f (nI_pos (by omega)) ?_
    rw [gr_m3 hw, gr_5p, gr_d3 hw, nI_clamp (n := p) (by omega)]
    refine ⟨by decide, vp_in_nI (by omega) (by decide), nm_e ⟨by decide, nm_e (nm_r (gr_m1 p) ?_)⟩⟩
    exact ih (w / 3) _ (by omega) (by omega) h
theorem gr_y_w53 {post : Int32 → SY → Prop} {rc tl : Int32} {al ar a : Nat → Int32} {m : Nat} : ∀ (p w : Nat) (tx : Nat → Int32), p ≤ 8 → w < 2 ^ 31 →
    post (nI m) (rc, nI m, al, ar, gr_lay p w tx, a) → wY_write_53 post (nI m) rc tl (p + 1) (nI w) (nI p - 1) al ar tx a := by
  intro p
  induction p with
  | zero =>
    intro w tx _ _ h
    exact br_t (by decide) h
  | succ p ih =>
    intro w tx hp hw h
    rw [nI_pred p]
    refine br_f (nI_pos (by omega)) ?_
    rw [gr_m3 hw, gr_5p, gr_d3 hw, nI_clamp (n := p) (by omega)]
    refine ⟨by decide, vp_in_nI (by omega) (by decide), nm_e ⟨by decide, nm_e (nm_r (gr_m1 p) ?_)⟩⟩
    exact ih (w / 3) _ (by omega) (by omega) h
theorem i_vc_write {k : Nat} {u : SX} {v : SY} (I : i_Rel k u v) (hk : k + 4 ≤ 2048) (v1 : Int32) (v2 : Int32) : wpX_write (fun r u' => wpY_write (fun r' v' => r' = r ∧ i_Rel (k + 4) u' v') v v1 v2) u v1 v2 := by
  obtain ⟨c, n, L, R, t, al, ar, tx, a, bl, br, ty, b, rfl, rfl, hG, ht, hX, hY⟩ := I
  have M : i_Rel (k + 4) (nI c, nI n, al, ar, tx, a) (nI c, nI n, bl, br, ty, b) := gr_mk hG ht hX hY
  unfold wpX_write wpY_write
  dsimp only
  rcases gr_ng v1 with h | ⟨m, hm, rfl⟩
  · exact br_t h (br_t h ⟨rfl, M⟩)
  · refine br_f (nI_pos hm) (pk_le m 8 (fun l8 => ?_) (fun l8 => ?_))
    · have h3 := gr_p3 l8
      rcases gr_ng v2 with h | ⟨w, hw, rfl⟩
      · refine br_t h (br_f (nI_pos hm) (pk_le m 8 (fun _ => ?_) (fun z => absurd z (by omega))))
        exact gr_y_texts l8 (fun f => br_t (nI_le (Nat.le_refl m) (by omega)) (br_t h ⟨rfl, M⟩))
      · refine br_f (nI_pos hw) (gr_x_texts l8 ?_)
        refine pk_lt w (3 ^ m) (fun l => nm_e ⟨m + 1, gr_x_w34 m w tx l8 hw ?_⟩) (fun l => ?_)
        · refine br_f (nI_pos hm) (pk_le m 8 (fun _ => ?_) (fun z => absurd z (by omega)))
          refine gr_y_texts l8 (fun f => br_t (nI_le (Nat.le_refl m) (by omega)) (br_f (nI_pos hw) ?_))
          refine pk_lt w (3 ^ m) (fun _ => nm_e ⟨m + 1, gr_y_w53 m w ty l8 hw ⟨rfl, ?_⟩⟩) (fun z => absurd z (by omega))
          exact gr_mk hG (gr_tx_dg l8) ⟨hX.1, hX.2.1, gr_lay_lo m w tx⟩ ⟨hY.1, hY.2.1, gr_lay_lo m w ty⟩
        · refine br_f (nI_pos hm) (pk_le m 8 (fun _ => ?_) (fun z => absurd z (by omega)))
          refine gr_y_texts l8 (fun f => br_t (nI_le (Nat.le_refl m) (by omega)) (br_f (nI_pos hw) ?_))
          exact pk_lt w (3 ^ m) (fun z => absurd z (by omega)) (fun _ => ⟨rfl, M⟩)
    · exact br_f (nI_pos hm) (pk_le m 8 (fun z => absurd z (by omega)) (fun _ => ⟨rfl, M⟩))
/-! accepts, fits, empty, ruleFits -/
theorem gr_yn {B : Bool} {M : Prop} (m : M) : (gr_vb B = 0 → ((0 : Int32) = gr_vb B ∧ M)) ∧ (¬ gr_vb B = 0 → ((1 : Int32) = gr_vb B ∧ M)) := by
  cases B
  · exact br_t rfl ⟨rfl, m⟩
  · exact br_f (by decide) ⟨rfl, m⟩
theorem i_vc_accepts {k : Nat} {u : SX} {v : SY} (I : i_Rel k u v) (hk : k + 4 ≤ 2048) : wpX_accepts (fun r u' => wpY_accepts (fun r' v' => r' = r ∧ i_Rel (k + 4) u' v') v) u := by
  obtain ⟨c, n, L, R, t, al, ar, tx, a, bl, br, ty, b, rfl, rfl, hG, ht, hX, hY⟩ := I
  have hn := ht.1
  unfold wpX_accepts wpY_accepts
  dsimp only
  refine gr_x_find hG ht hX.1 hX.2.1 hX.2.2 (fun a' hS => ?_)
  dsimp only
  refine gr_x_bit (by omega) ?_
  refine gr_y_work hG ht hY.1 hY.2.1 hY.2.2 (fun b' hB => ?_)
  dsimp only
  refine gr_y_signS (s := 0) (i := 0) (j := n) ht hY.2.2 hB (by omega) (by omega) (by omega) ?_
  have e : bt (a' 0) n = gr_B c L R n t 0 0 n := hS 0 (by omega) 0 (by omega) n
  rw [e]
  exact gr_yn (gr_mk hG ht hX hY)
theorem i_vc_fits {k : Nat} {u : SX} {v : SY} (I : i_Rel k u v) (hk : k + 4 ≤ 2048) (v1 : Int32) (v2 : Int32) (v3 : Int32) : wpX_fits (fun r u' => wpY_fits (fun r' v' => r' = r ∧ i_Rel (k + 4) u' v') v v1 v2 v3) u v1 v2 v3 := by
  obtain ⟨c, n, L, R, t, al, ar, tx, a, bl, br, ty, b, rfl, rfl, hG, ht, hX, hY⟩ := I
  have hn := ht.1
  have M : i_Rel (k + 4) (nI c, nI n, al, ar, tx, a) (nI c, nI n, bl, br, ty, b) := gr_mk hG ht hX hY
  unfold wpX_fits wpY_fits
  dsimp only
  rcases gr_ng v1 with h | ⟨s, hs, rfl⟩
  · exact gr_x_signN h (br_t rfl (gr_y_bsignN h (br_f (by decide) ⟨rfl, M⟩)))
  · refine gr_x_sign hs (fun l => br_t rfl ?_) (fun l => br_f (by decide) ?_)
    · exact gr_y_bsign hs (fun _ => br_f (by decide) ⟨rfl, M⟩) (fun z => absurd z (by omega))
    · rcases gr_src hn v2 v3 with hb | ⟨i, j, hij, hj, rfl, rfl⟩
      · refine gr_x_str0 hb (br_t rfl ?_)
        exact gr_y_bsign hs (fun z => absurd z (by omega)) (fun _ => br_t rfl (gr_y_str0 hb (br_f (by decide) ⟨rfl, M⟩)))
      · refine gr_x_str1 hn hij hj (br_f (by decide) ?_)
        refine gr_x_find hG ht hX.1 hX.2.1 hX.2.2 (fun a' hS => ?_)
        dsimp only
        rw [gr_i9 s i, nI_clamp (n := 9 * s + i) (by omega)]
        refine ⟨vp_in_nI (by omega) (by decide), gr_x_bit (by omega) ?_⟩
        refine gr_y_bsign hs (fun z => absurd z (by omega)) (fun _ => br_t rfl (gr_y_str1 hn hij hj (br_t rfl ?_)))
        refine gr_y_work hG ht hY.1 hY.2.1 hY.2.2 (fun b' hB => ?_)
        dsimp only
        refine gr_y_signS ht hY.2.2 hB l hij hj ?_
        rw [hS s l i (by omega) j]
        exact gr_yn (gr_mk hG ht hX hY)
theorem i_vc_empty {k : Nat} {u : SX} {v : SY} (I : i_Rel k u v) (hk : k + 4 ≤ 2048) (v1 : Int32) : wpX_empty (fun r u' => wpY_empty (fun r' v' => r' = r ∧ i_Rel (k + 4) u' v') v v1) u v1 := by
  obtain ⟨c, n, L, R, t, al, ar, tx, a, bl, br, ty, b, rfl, rfl, hG, ht, hX, hY⟩ := I
  have hn := ht.1
  have M : i_Rel (k + 4) (nI c, nI n, al, ar, tx, a) (nI c, nI n, bl, br, ty, b) := gr_mk hG ht hX hY
  unfold wpX_empty wpY_empty
  dsimp only
  rcases gr_ng v1 with h | ⟨s, hs, rfl⟩
  · exact gr_x_nameN h (br_t rfl (br_t h ⟨rfl, M⟩))
  · refine gr_x_name hs (fun l => br_t rfl ?_) (fun l => br_f (by decide) ?_)
    · exact br_f (nI_pos hs) (pk_le s 4 (fun z => absurd z (by omega)) (fun _ => ⟨rfl, M⟩))
    · refine gr_x_find hG ht hX.1 hX.2.1 hX.2.2 (fun a' hS => ?_)
      dsimp only
      have e9 : nI s * 9 = nI (9 * s) := by
        rw [Nat.mul_comm]
        exact pk_mul s 9
      rw [e9, nI_clamp (n := 9 * s) (by omega)]
      refine ⟨vp_in_nI (by omega) (by decide), gr_x_bit (e := 0) (by omega) ?_⟩
      refine br_f (nI_pos hs) (pk_le s 4 (fun _ => ?_) (fun z => absurd z (by omega)))
      refine gr_y_work hG ht hY.1 hY.2.1 hY.2.2 (fun b' hB => ?_)
      dsimp only
      refine gr_y_signS (i := 0) (j := 0) ht hY.2.2 hB (by omega) (by omega) (by omega) ?_
      have e : bt (a' (9 * s)) 0 = gr_B c L R n t s 0 0 := hS s (by omega) 0 (by omega) 0
      rw [e]
      exact gr_yn (gr_mk hG ht hX hY)
theorem i_vc_ruleFits {k : Nat} {u : SX} {v : SY} (I : i_Rel k u v) (hk : k + 4 ≤ 2048) (v1 : Int32) (v2 : Int32) (v3 : Int32) : wpX_ruleFits (fun r u' => wpY_ruleFits (fun r' v' => r' = r ∧ i_Rel (k + 4) u' v') v v1 v2 v3) u v1 v2 v3 := by
  obtain ⟨c, n, L, R, t, al, ar, tx, a, bl, br, ty, b, rfl, rfl, hG, ht, hX, hY⟩ := I
  have hn := ht.1
  have hc := hG.1
  have M : i_Rel (k + 4) (nI c, nI n, al, ar, tx, a) (nI c, nI n, bl, br, ty, b) := gr_mk hG ht hX hY
  unfold wpX_ruleFits wpY_ruleFits
  dsimp only
  rcases gr_ng v1 with h | ⟨q, hq, rfl⟩
  · exact gr_x_ruleN h (br_t rfl (gr_y_bruleN h (br_f (by decide) ⟨rfl, M⟩)))
  · refine gr_x_rule hc hq (fun l => br_t rfl ?_) (fun l => br_f (by decide) ?_)
    · exact gr_y_brule hc hq (fun _ => br_f (by decide) ⟨rfl, M⟩) (fun z => absurd z (by omega))
    · rcases gr_src hn v2 v3 with hb | ⟨i, j, hij, hj, rfl, rfl⟩
      · refine gr_x_str0 hb (br_t rfl ?_)
        exact gr_y_brule hc hq (fun z => absurd z (by omega)) (fun _ => br_t rfl (gr_y_str0 hb (br_f (by decide) ⟨rfl, M⟩)))
      · refine gr_x_str1 hn hij hj (br_f (by decide) ?_)
        refine gr_x_find hG ht hX.1 hX.2.1 hX.2.2 (fun a' hS => ?_)
        dsimp only
        refine gr_x_eor hG l hX.2.1 (gr_x_bit (by omega) ?_)
        refine gr_y_brule hc hq (fun z => absurd z (by omega)) (fun _ => br_t rfl (gr_y_str1 hn hij hj (br_t rfl ?_)))
        refine gr_y_work hG ht hY.1 hY.2.1 hY.2.2 (fun b' hB => ?_)
        dsimp only
        rw [nI_clamp (n := q) (by omega), hY.2.1 q l]
        refine ⟨vp_in_nI (by omega) (by decide), gr_y_rowS hG ht hY.2.2 hB (hG.2 q l).2 hij hj ?_⟩
        rw [gr_XS_e hS (gr_G_R hG q l) (by omega) j]
        exact gr_yn (gr_mk hG ht hX hY)
/-! ends -/
theorem gr_y_ends {post : Int32 → SY → Prop} {b bl br ty : Nat → Int32} {c : Nat} {L R : Nat → Nat} {n : Nat} {t : Nat → Nat} {cn : Int32}
    (hG : gr_G c L R) (ht : gr_tx n t) (hy : gr_A ty t n) (hb : gr_YS c L R n t b) {s i : Nat} (hs : s < 8) (hi : i ≤ n)
    (H : ∀ x, (∀ p, bt x p = gr_B c L R n t s i p) → post x (cn, nI n, bl, br, ty, b)) :
    ∃ m, wY_ends_34 post (nI s) (nI i) cn (nI n) bl br ty b m 0 (nI i) := by
  have hn := ht.1
  refine pk_loop (fun m j (x : Int32) => wY_ends_34 post (nI s) (nI i) cn (nI n) bl br ty b m x (nI j))
    (fun j x => i ≤ j ∧ ∀ p, bt x p = (decide (p < j) && gr_B c L R n t s i p)) (n + 1) i 0 (by omega) ⟨Nat.le_refl i, fun p => ?_⟩ ?_ ?_
  · rw [b_0]
    by_cases e : p < i
    · have f : gr_B c L R n t s i p = false := gr_dc_f (fun g => absurd (gr_S_sup (gr_G_L hG) s i p hi g).1 (by omega))
      rw [f, Bool.and_false]
    · rw [decide_eq_false e, Bool.false_and]
  · intro m x hs'
    refine br_t (nI_lt (by omega) (by omega)) (H x (fun p => ?_))
    rw [hs'.2 p]
    by_cases e : p < n + 1
    · rw [decide_eq_true e, Bool.true_and]
    · have f : gr_B c L R n t s i p = false := gr_dc_f (fun g => absurd (gr_S_sup (gr_G_L hG) s i p hi g).2 (by omega))
      rw [f, Bool.and_false]
  · intro m j x hj hs' k
    obtain ⟨ij, hx⟩ := hs'
    refine br_f (nI_nlt (by omega) (by omega)) (br_f (nI_ge (b := 9) (by omega) (by decide)) ?_)
    refine gr_y_signS ht hy hb hs ij (by omega) ?_
    by_cases e : gr_B c L R n t s i j = true
    · rw [e]
      refine br_f (by decide) (nm_e (nm_r (nI_1 j) (k _ ⟨by omega, fun p => ?_⟩)))
      rw [b_or, hx p, gr_b1 (by omega)]
      by_cases ep : p = j
      · subst ep
        rw [e, decide_eq_true (rfl : p = p), Bool.or_true, decide_eq_true (show p < p + 1 by omega), Bool.true_and]
      · rw [decide_eq_false ep, Bool.or_false]
        by_cases lp : p < j
        · rw [decide_eq_true lp, decide_eq_true (show p < j + 1 by omega)]
        · rw [decide_eq_false lp, decide_eq_false (show ¬ p < j + 1 by omega)]
    · have e' := gr_nt e
      rw [e']
      refine br_t (by decide) (nm_r (nI_1 j) (k _ ⟨by omega, fun p => ?_⟩))
      rw [hx p]
      by_cases ep : p = j
      · subst ep
        rw [e', Bool.and_false, Bool.and_false]
      · by_cases lp : p < j
        · rw [decide_eq_true lp, decide_eq_true (show p < j + 1 by omega)]
        · rw [decide_eq_false lp, decide_eq_false (show ¬ p < j + 1 by omega)]
theorem i_vc_ends {k : Nat} {u : SX} {v : SY} (I : i_Rel k u v) (hk : k + 4 ≤ 2048) (v1 : Int32) (v2 : Int32) : wpX_ends (fun r u' => wpY_ends (fun r' v' => r' = r ∧ i_Rel (k + 4) u' v') v v1 v2) u v1 v2 := by
  obtain ⟨c, n, L, R, t, al, ar, tx, a, bl, br, ty, b, rfl, rfl, hG, ht, hX, hY⟩ := I
  have hn := ht.1
  have M : i_Rel (k + 4) (nI c, nI n, al, ar, tx, a) (nI c, nI n, bl, br, ty, b) := gr_mk hG ht hX hY
  unfold wpX_ends wpY_ends
  dsimp only
  rcases gr_ng v1 with h | ⟨s, hs, rfl⟩
  · exact gr_x_signN h (br_t rfl (gr_y_bsignN h (br_f (by decide) ⟨rfl, M⟩)))
  · refine gr_x_sign hs (fun l => br_t rfl ?_) (fun l => br_f (by decide) ?_)
    · exact gr_y_bsign hs (fun _ => br_f (by decide) ⟨rfl, M⟩) (fun z => absurd z (by omega))
    · rcases gr_ng v2 with h | ⟨i, hi, rfl⟩
      · exact br_t h (gr_y_bsign hs (fun z => absurd z (by omega)) (fun _ => br_t rfl (br_t h ⟨rfl, M⟩)))
      · refine br_f (nI_pos hi) (pk_le i n (fun li => ?_) (fun li => ?_))
        · refine gr_x_find hG ht hX.1 hX.2.1 hX.2.2 (fun a' hS => ?_)
          dsimp only
          rw [gr_i9 s i, nI_clamp (n := 9 * s + i) (by omega)]
          refine ⟨vp_in_nI (by omega) (by decide), ?_⟩
          refine gr_y_bsign hs (fun z => absurd z (by omega)) (fun _ => br_t rfl (br_f (nI_pos hi) ?_))
          refine pk_le i n (fun _ => ?_) (fun z => absurd z (by omega))
          refine gr_y_work hG ht hY.1 hY.2.1 hY.2.2 (fun b' hB => ?_)
          dsimp only
          refine gr_y_ends hG ht hY.2.2 hB l li (fun x hx => ⟨b_ext (fun p _ => ?_), gr_mk hG ht hX hY⟩)
          rw [hx p, hS s l i (by omega) p]
        · exact gr_y_bsign hs (fun z => absurd z (by omega)) (fun _ => br_t rfl (br_f (nI_pos hi) (pk_le i n (fun z => absurd z (by omega)) (fun _ => ⟨rfl, M⟩))))
end
section
/-! a value carried over j, j + 1, .. -/
def gr_fd (g : Nat → Int32 → Int32) : Nat → Nat → Int32 → Int32
  | _, 0, x => x
  | j, d + 1, x => gr_fd g (j + 1) d (g j x)
/-! stretches -/
def gr_gs (B : Nat → Nat → Bool) (i j : Nat) (x : Int32) : Int32 := x + gr_vb (B i j)
theorem gr_x_st1 {post : Int32 → SX → Prop} {J : Int32 → Int32 → Prop} {a al ar tx : Nat → Int32} {c : Nat} {L R : Nat → Nat} {n : Nat} {t : Nat → Nat} {rc : Int32}
    (hn : n ≤ 8) (hS : gr_XS c L R n t a) {s i : Nat} (hs : s < 8) (hi : i ≤ n) : ∀ d j x, j + d = n + 1 →
    J (gr_fd (gr_gs (gr_B c L R n t s) i) j d x) (nI (i + 1)) → wX_stretches_28 post J (nI s) (nI i) rc (nI n) al ar tx a (d + 1) x (nI j) := by
  intro d
  induction d with
  | zero =>
    intro j x hj h
    exact br_t (nI_lt (by omega) (by omega)) (nm_r (nI_1 i) h)
  | succ d ih =>
    intro j x hj h
    refine br_f (nI_nlt (by omega) (by omega)) ?_
    rw [gr_i9 s i, nI_clamp (n := 9 * s + i) (by omega)]
    refine ⟨vp_in_nI (by omega) (by decide), gr_x_bit (by omega) ?_⟩
    rw [hS s hs i (by omega) j]
    exact nm_e (nm_r (nI_1 j) (ih (j + 1) _ (by omega) h))
theorem gr_y_st1 {post : Int32 → SY → Prop} {J : Int32 → Int32 → Prop} {b bl br ty : Nat → Int32} {c : Nat} {L R : Nat → Nat} {n : Nat} {t : Nat → Nat} {cn : Int32}
    (ht : gr_tx n t) (hy : gr_A ty t n) (hb : gr_YS c L R n t b) {s i : Nat} (hs : s < 8) (hi : i ≤ n) : ∀ d j x, i ≤ j → j + d = n + 1 →
    J (gr_fd (gr_gs (gr_B c L R n t s) i) j d x) (nI (i + 1)) → wY_stretches_29 post J (nI s) (nI i) cn (nI n) bl br ty b (d + 1) x (nI j) := by
  have hn := ht.1
  intro d
  induction d with
  | zero =>
    intro j x _ hj h
    exact br_t (nI_lt (by omega) (by omega)) (nm_r (nI_1 i) h)
  | succ d ih =>
    intro j x ij hj h
    refine br_f (nI_nlt (by omega) (by omega)) ?_
    refine gr_y_signS ht hy hb hs ij (by omega) ?_
    have h2 : J (gr_fd (gr_gs (gr_B c L R n t s) i) (j + 1) d (x + gr_vb (gr_B c L R n t s i j))) (nI (i + 1)) := h
    by_cases e : gr_B c L R n t s i j = true
    · rw [e] at h2 ⊢
      exact br_f (by decide) (nm_e (nm_r (nI_1 j) (ih (j + 1) _ (by omega) (by omega) h2)))
    · rw [gr_nt e] at h2 ⊢
      have z : x + gr_vb false = x := Int32.add_zero x
      rw [z] at h2
      exact br_t (by decide) (nm_r (nI_1 j) (ih (j + 1) _ (by omega) (by omega) h2))
def gr_go (g : Nat → Nat → Int32 → Int32) (n : Nat) (i : Nat) (x : Int32) : Int32 := gr_fd (g i) i (n + 1 - i) x
theorem gr_x_st {post : Int32 → SX → Prop} {a al ar tx : Nat → Int32} {c : Nat} {L R : Nat → Nat} {n : Nat} {t : Nat → Nat} {rc : Int32}
    (hn : n ≤ 8) (hS : gr_XS c L R n t a) {s : Nat} (hs : s < 8) : ∀ d i x, i + d = n + 1 →
    post (gr_fd (gr_go (gr_gs (gr_B c L R n t s)) n) i d x) (rc, nI n, al, ar, tx, a) → wX_stretches_17 post (nI s) rc (nI n) al ar tx a (d + 1) x (nI i) := by
  intro d
  induction d with
  | zero =>
    intro i x hi h
    exact br_t (nI_lt (by omega) (by omega)) h
  | succ d ih =>
    intro i x hi h
    exact br_f (nI_nlt (by omega) (by omega)) ⟨_, gr_x_st1 hn hS hs (by omega) (n + 1 - i) i x (by omega) (ih (i + 1) _ (by omega) h)⟩
theorem gr_y_st {post : Int32 → SY → Prop} {b bl br ty : Nat → Int32} {c : Nat} {L R : Nat → Nat} {n : Nat} {t : Nat → Nat} {cn : Int32}
    (ht : gr_tx n t) (hy : gr_A ty t n) (hb : gr_YS c L R n t b) {s : Nat} (hs : s < 8) : ∀ d i x, i + d = n + 1 →
    post (gr_fd (gr_go (gr_gs (gr_B c L R n t s)) n) i d x) (cn, nI n, bl, br, ty, b) → wY_stretches_18 post (nI s) cn (nI n) bl br ty b (d + 1) x (nI i) := by
  have hn := ht.1
  intro d
  induction d with
  | zero =>
    intro i x hi h
    exact br_t (nI_lt (by omega) (by omega)) h
  | succ d ih =>
    intro i x hi h
    exact br_f (nI_nlt (by omega) (by omega)) ⟨_, gr_y_st1 ht hy hb hs (by omega) (n + 1 - i) i x (by omega) (by omega) (ih (i + 1) _ (by omega) h)⟩
theorem i_vc_stretches {k : Nat} {u : SX} {v : SY} (I : i_Rel k u v) (hk : k + 4 ≤ 2048) (v1 : Int32) : wpX_stretches (fun r u' => wpY_stretches (fun r' v' => r' = r ∧ i_Rel (k + 4) u' v') v v1) u v1 := by
  obtain ⟨c, n, L, R, t, al, ar, tx, a, bl, br, ty, b, rfl, rfl, hG, ht, hX, hY⟩ := I
  have hn := ht.1
  have M : i_Rel (k + 4) (nI c, nI n, al, ar, tx, a) (nI c, nI n, bl, br, ty, b) := gr_mk hG ht hX hY
  unfold wpX_stretches wpY_stretches
  dsimp only
  rcases gr_ng v1 with h | ⟨s, hs, rfl⟩
  · exact gr_x_signN h (br_t rfl (gr_y_bsignN h (br_f (by decide) ⟨rfl, M⟩)))
  · refine gr_x_sign hs (fun l => br_t rfl ?_) (fun l => br_f (by decide) ?_)
    · exact gr_y_bsign hs (fun _ => br_f (by decide) ⟨rfl, M⟩) (fun z => absurd z (by omega))
    · refine gr_x_find hG ht hX.1 hX.2.1 hX.2.2 (fun a' hS => ?_)
      dsimp only
      refine ⟨_, gr_x_st hn hS l (n + 1) 0 0 (by omega) ?_⟩
      refine gr_y_bsign hs (fun z => absurd z (by omega)) (fun _ => br_t rfl ?_)
      refine gr_y_work hG ht hY.1 hY.2.1 hY.2.2 (fun b' hB => ?_)
      dsimp only
      exact ⟨_, gr_y_st ht hY.2.2 hB l (n + 1) 0 0 (by omega) ⟨rfl, gr_mk hG ht hX hY⟩⟩
/-! longest -/
def gr_gl (B : Nat → Nat → Bool) (i j : Nat) (x : Int32) : Int32 :=
  if nI j - nI i ≤ x then x else if B i j = true then nI j - nI i else x
theorem gr_x_lo1 {post : Int32 → SX → Prop} {J : Int32 → Int32 → Prop} {a al ar tx : Nat → Int32} {c : Nat} {L R : Nat → Nat} {n : Nat} {t : Nat → Nat} {rc : Int32}
    (hn : n ≤ 8) (hS : gr_XS c L R n t a) {s i : Nat} (hs : s < 8) (hi : i ≤ n) : ∀ d j x, j + d = n + 1 →
    J (gr_fd (gr_gl (gr_B c L R n t s) i) j d x) (nI (i + 1)) → wX_longest_29 post J (nI s) (nI i) rc (nI n) al ar tx a (d + 1) x (nI j) := by
  intro d
  induction d with
  | zero =>
    intro j x hj h
    exact br_t (nI_lt (by omega) (by omega)) (nm_r (nI_1 i) h)
  | succ d ih =>
    intro j x hj h
    have h2 : J (gr_fd (gr_gl (gr_B c L R n t s) i) (j + 1) d (if nI j - nI i ≤ x then x else if gr_B c L R n t s i j = true then nI j - nI i else x)) (nI (i + 1)) := h
    refine br_f (nI_nlt (by omega) (by omega)) ?_
    rw [gr_i9 s i, nI_clamp (n := 9 * s + i) (by omega)]
    refine br_c (fun e => ?_) (fun e => ⟨vp_in_nI (by omega) (by decide), gr_x_bit (by omega) ?_⟩)
    · rw [if_pos e] at h2
      exact nm_r (nI_1 j) (ih (j + 1) _ (by omega) h2)
    · rw [if_neg e] at h2
      rw [hS s hs i (by omega) j]
      by_cases g : gr_B c L R n t s i j = true
      · rw [if_pos g] at h2
        rw [g]
        exact br_t rfl (nm_e (nm_r (nI_1 j) (ih (j + 1) _ (by omega) h2)))
      · rw [if_neg g] at h2
        rw [gr_nt g]
        exact br_f (by decide) (nm_r (nI_1 j) (ih (j + 1) _ (by omega) h2))
theorem gr_y_lo1 {post : Int32 → SY → Prop} {J : Int32 → Int32 → Prop} {b bl br ty : Nat → Int32} {c : Nat} {L R : Nat → Nat} {n : Nat} {t : Nat → Nat} {cn : Int32}
    (ht : gr_tx n t) (hy : gr_A ty t n) (hb : gr_YS c L R n t b) {s i : Nat} (hs : s < 8) (hi : i ≤ n) : ∀ d j x, i ≤ j → j + d = n + 1 →
    J (gr_fd (gr_gl (gr_B c L R n t s) i) j d x) (nI (i + 1)) → wY_longest_30 post J (nI s) (nI i) cn (nI n) bl br ty b (d + 1) x (nI j) := by
  have hn := ht.1
  intro d
  induction d with
  | zero =>
    intro j x _ hj h
    exact br_t (nI_lt (by omega) (by omega)) (nm_r (nI_1 i) h)
  | succ d ih =>
    intro j x ij hj h
    have h2 : J (gr_fd (gr_gl (gr_B c L R n t s) i) (j + 1) d (if nI j - nI i ≤ x then x else if gr_B c L R n t s i j = true then nI j - nI i else x)) (nI (i + 1)) := h
    refine br_f (nI_nlt (by omega) (by omega)) ?_
    refine br_c (fun e => ?_) (fun e => ?_)
    · rw [if_pos e] at h2
      exact nm_r (nI_1 j) (ih (j + 1) _ (by omega) (by omega) h2)
    · rw [if_neg e] at h2
      refine gr_y_signS ht hy hb hs ij (by omega) ?_
      by_cases g : gr_B c L R n t s i j = true
      · rw [if_pos g] at h2
        rw [g]
        exact br_f (by decide) (nm_e (nm_r (nI_1 j) (ih (j + 1) _ (by omega) (by omega) h2)))
      · rw [if_neg g] at h2
        rw [gr_nt g]
        exact br_t (by decide) (nm_r (nI_1 j) (ih (j + 1) _ (by omega) (by omega) h2))
theorem gr_x_lo {post : Int32 → SX → Prop} {a al ar tx : Nat → Int32} {c : Nat} {L R : Nat → Nat} {n : Nat} {t : Nat → Nat} {rc : Int32}
    (hn : n ≤ 8) (hS : gr_XS c L R n t a) {s : Nat} (hs : s < 8) : ∀ d i x, i + d = n + 1 →
    post (gr_fd (gr_go (gr_gl (gr_B c L R n t s)) n) i d x) (rc, nI n, al, ar, tx, a) → wX_longest_18 post (nI s) rc (nI n) al ar tx a (d + 1) x (nI i) := by
  intro d
  induction d with
  | zero =>
    intro i x hi h
    exact br_t (nI_lt (by omega) (by omega)) h
  | succ d ih =>
    intro i x hi h
    exact br_f (nI_nlt (by omega) (by omega)) ⟨_, gr_x_lo1 hn hS hs (by omega) (n + 1 - i) i x (by omega) (ih (i + 1) _ (by omega) h)⟩
theorem gr_y_lo {post : Int32 → SY → Prop} {b bl br ty : Nat → Int32} {c : Nat} {L R : Nat → Nat} {n : Nat} {t : Nat → Nat} {cn : Int32}
    (ht : gr_tx n t) (hy : gr_A ty t n) (hb : gr_YS c L R n t b) {s : Nat} (hs : s < 8) : ∀ d i x, i + d = n + 1 →
    post (gr_fd (gr_go (gr_gl (gr_B c L R n t s)) n) i d x) (cn, nI n, bl, br, ty, b) → wY_longest_19 post (nI s) cn (nI n) bl br ty b (d + 1) x (nI i) := by
  have hn := ht.1
  intro d
  induction d with
  | zero =>
    intro i x hi h
    exact br_t (nI_lt (by omega) (by omega)) h
  | succ d ih =>
    intro i x hi h
    exact br_f (nI_nlt (by omega) (by omega)) ⟨_, gr_y_lo1 ht hy hb hs (by omega) (n + 1 - i) i x (by omega) (by omega) (ih (i + 1) _ (by omega) h)⟩
theorem i_vc_longest {k : Nat} {u : SX} {v : SY} (I : i_Rel k u v) (hk : k + 4 ≤ 2048) (v1 : Int32) : wpX_longest (fun r u' => wpY_longest (fun r' v' => r' = r ∧ i_Rel (k + 4) u' v') v v1) u v1 := by
  obtain ⟨c, n, L, R, t, al, ar, tx, a, bl, br, ty, b, rfl, rfl, hG, ht, hX, hY⟩ := I
  have hn := ht.1
  have M : i_Rel (k + 4) (nI c, nI n, al, ar, tx, a) (nI c, nI n, bl, br, ty, b) := gr_mk hG ht hX hY
  unfold wpX_longest wpY_longest
  dsimp only
  rcases gr_ng v1 with h | ⟨s, hs, rfl⟩
  · exact gr_x_signN h (br_t rfl (gr_y_bsignN h (br_f (by decide) ⟨rfl, M⟩)))
  · refine gr_x_sign hs (fun l => br_t rfl ?_) (fun l => br_f (by decide) ?_)
    · exact gr_y_bsign hs (fun _ => br_f (by decide) ⟨rfl, M⟩) (fun z => absurd z (by omega))
    · refine gr_x_find hG ht hX.1 hX.2.1 hX.2.2 (fun a' hS => ?_)
      dsimp only
      refine ⟨_, gr_x_lo hn hS l (n + 1) 0 (-2) (by omega) ?_⟩
      refine gr_y_bsign hs (fun z => absurd z (by omega)) (fun _ => br_t rfl ?_)
      refine gr_y_work hG ht hY.1 hY.2.1 hY.2.2 (fun b' hB => ?_)
      dsimp only
      exact ⟨_, gr_y_lo ht hY.2.2 hB l (n + 1) 0 (-2) (by omega) ⟨rfl, gr_mk hG ht hX hY⟩⟩
/-! ways -/
def gr_gw (L : Nat → Nat) (E : Nat → Bool) (s q : Nat) (x : Int32) : Int32 := if L q = s then x + gr_vb (E q) else x
theorem gr_x_wa {post : Int32 → SX → Prop} {a al ar tx : Nat → Int32} {c : Nat} {L R : Nat → Nat} {n : Nat} {t : Nat → Nat} {tl : Int32}
    (hG : gr_G c L R) (hl : gr_A al L c) (hr : gr_A ar R c) (hS : gr_XS c L R n t a) {s i j : Nat} (hs : s < 5) (hi : i < 9) (hj : j < 9) :
    ∀ d q x, q + d = c →
    post (gr_fd (gr_gw L (fun q => gr_E c L R n t (R q) i j) s) q d x) (nI c, tl, al, ar, tx, a) →
    wX_ways_31 post (nI s) (nI i) (nI j) (nI c) tl al ar tx a (d + 1) x (nI q) := by
  have hc := hG.1
  intro d
  induction d with
  | zero =>
    intro q x hq h
    exact br_t (nI_le (by omega) (by omega)) h
  | succ d ih =>
    intro q x hq h
    have hq' : q < c := by omega
    have hL := gr_G_L hG q hq'
    have h2 : post (gr_fd (gr_gw L (fun q => gr_E c L R n t (R q) i j) s) (q + 1) d
      (if L q = s then x + gr_vb (gr_E c L R n t (R q) i j) else x)) (nI c, tl, al, ar, tx, a) := h
    refine br_f (nI_ge hq' (by omega)) ?_
    rw [nI_clamp (n := q) (by omega), hl q hq']
    refine ⟨vp_in_nI (by omega) (by decide), pk_eq (L q) s (fun e => ?_) (fun e => ?_)⟩
    · rw [if_pos e] at h2
      refine gr_x_eor hG hq' hr (gr_x_bit (by omega) ?_)
      rw [gr_XS_e hS (gr_G_R hG q hq') hi j]
      exact nm_e (nm_r (nI_1 q) (ih (q + 1) _ (by omega) h2))
    · rw [if_neg e] at h2
      exact nm_r (nI_1 q) (ih (q + 1) _ (by omega) h2)
theorem gr_y_wa {post : Int32 → SY → Prop} {b bl br ty : Nat → Int32} {c : Nat} {L R : Nat → Nat} {n : Nat} {t : Nat → Nat} {ln : Int32}
    (hG : gr_G c L R) (ht : gr_tx n t) (hl : gr_A bl L c) (hr : gr_A br R c) (hy : gr_A ty t n) (hb : gr_YS c L R n t b) {s i j : Nat} (hs : s < 5)
    (hij : i ≤ j) (hj : j ≤ n) : ∀ d q x, q + d = c →
    post (gr_fd (gr_gw L (fun q => gr_E c L R n t (R q) i j) s) q d x) (nI c, ln, bl, br, ty, b) →
    wY_ways_33 post (nI s) (nI i) (nI j) (nI c) ln bl br ty b (d + 1) x (nI q) := by
  have hc := hG.1
  intro d
  induction d with
  | zero =>
    intro q x hq h
    exact br_t (nI_le (by omega) (by omega)) h
  | succ d ih =>
    intro q x hq h
    have hq' : q < c := by omega
    have hL := gr_G_L hG q hq'
    have h2 : post (gr_fd (gr_gw L (fun q => gr_E c L R n t (R q) i j) s) (q + 1) d
      (if L q = s then x + gr_vb (gr_E c L R n t (R q) i j) else x)) (nI c, ln, bl, br, ty, b) := h
    refine br_f (nI_ge hq' (by omega)) (br_f (nI_ge (b := 12) (by omega) (by decide)) ?_)
    rw [nI_clamp (n := q) (by omega), hl q hq', hr q hq']
    refine ⟨vp_in_nI (by omega) (by decide), pk_eq (L q) s (fun e => ⟨vp_in_nI (by omega) (by decide), ?_⟩) (fun e => ?_)⟩
    · rw [if_pos e] at h2
      refine gr_y_rowS hG ht hy hb (hG.2 q hq').2 hij hj ?_
      by_cases g : gr_E c L R n t (R q) i j = true
      · rw [g] at h2 ⊢
        exact br_f (by decide) (nm_e (nm_r (nI_1 q) (ih (q + 1) _ (by omega) h2)))
      · rw [gr_nt g] at h2 ⊢
        have z : x + gr_vb false = x := Int32.add_zero x
        rw [z] at h2
        exact br_t (by decide) (nm_r (nI_1 q) (ih (q + 1) _ (by omega) h2))
    · rw [if_neg e] at h2
      exact nm_r (nI_1 q) (ih (q + 1) _ (by omega) h2)
theorem i_vc_ways {k : Nat} {u : SX} {v : SY} (I : i_Rel k u v) (hk : k + 4 ≤ 2048) (v1 : Int32) (v2 : Int32) (v3 : Int32) : wpX_ways (fun r u' => wpY_ways (fun r' v' => r' = r ∧ i_Rel (k + 4) u' v') v v1 v2 v3) u v1 v2 v3 := by
  obtain ⟨c, n, L, R, t, al, ar, tx, a, bl, br, ty, b, rfl, rfl, hG, ht, hX, hY⟩ := I
  have hn := ht.1
  have hc := hG.1
  have M : i_Rel (k + 4) (nI c, nI n, al, ar, tx, a) (nI c, nI n, bl, br, ty, b) := gr_mk hG ht hX hY
  unfold wpX_ways wpY_ways
  dsimp only
  rcases gr_ng v1 with h | ⟨s, hs, rfl⟩
  · exact gr_x_nameN h (br_t rfl (br_t h ⟨rfl, M⟩))
  · refine gr_x_name hs (fun l => br_t rfl ?_) (fun l => br_f (by decide) ?_)
    · exact br_f (nI_pos hs) (pk_le s 4 (fun z => absurd z (by omega)) (fun _ => ⟨rfl, M⟩))
    · rcases gr_src hn v2 v3 with hb | ⟨i, j, hij, hj, rfl, rfl⟩
      · refine gr_x_str0 hb (br_t rfl ?_)
        exact br_f (nI_pos hs) (pk_le s 4 (fun _ => gr_y_str0 hb (br_f (by decide) ⟨rfl, M⟩)) (fun z => absurd z (by omega)))
      · refine gr_x_str1 hn hij hj (br_f (by decide) ?_)
        refine gr_x_find hG ht hX.1 hX.2.1 hX.2.2 (fun a' hS => ?_)
        dsimp only
        refine ⟨_, gr_x_wa hG hX.1 hX.2.1 hS l (by omega) (by omega) c 0 0 (by omega) ?_⟩
        refine br_f (nI_pos hs) (pk_le s 4 (fun _ => gr_y_str1 hn hij hj (br_t rfl ?_)) (fun z => absurd z (by omega)))
        refine gr_y_work hG ht hY.1 hY.2.1 hY.2.2 (fun b' hB => ?_)
        dsimp only
        exact ⟨_, gr_y_wa hG ht hY.1 hY.2.1 hY.2.2 hB l hij hj c 0 0 (by omega) ⟨rfl, gr_mk hG ht hX hY⟩⟩
end
section
/-! nextLetter -/
noncomputable def gr_N (c : Nat) (L R : Nat → Nat) (n : Nat) (t : Nat → Nat) (l : Nat) : Bool := gr_B c L R (n + 1) (gr_up t n l) 0 0 (n + 1)
theorem gr_x_nl {post : Int32 → SX → Prop} {a al ar tx : Nat → Int32} {c : Nat} {L R : Nat → Nat} {n : Nat} {t : Nat → Nat} {f l : Nat}
    (hG : gr_G c L R) (ht : gr_tx n t) (hl : gr_A al L c) (hr : gr_A ar R c) (hx : gr_A tx t n) (hn : n < 8) (h5 : 5 ≤ l) (h7 : l ≤ 7)
    (h1 : ∀ a, gr_N c L R n t l = true → post (nI l) (nI c, nI n, al, ar, tx, a))
    (h0 : ∀ a, gr_N c L R n t l = false → wX_nextLetter_13 post f (nI (l + 1)) (nI c) (nI n) al ar tx a) :
    wX_nextLetter_13 post (f + 1) (nI l) (nI c) (nI n) al ar tx a := by
  refine br_f (nI_ge (b := 8) (by omega) (by decide)) ?_
  refine gr_x_layText ht hx (fun a1 hL1 => ?_)
  dsimp only
  have hL2 := gr_La_s (t' := gr_up t n l) hL1 hn (by rw [gr_up_s]; omega) (fun i hi => gr_up_n (by omega))
  rw [gr_up_s] at hL2
  refine gr_x_layLetter (by omega) hn ?_
  dsimp only
  rw [nI_1 n]
  refine gr_x_rules (n := n + 1) (t := gr_up t n l) hG (by omega) (gr_La_I hL2 (fun i hi => ((gr_tx_up ht hn h5 h7).2 i hi).1)) hl hr (fun a2 hS => ?_)
  dsimp only
  rw [nI_1 n]
  refine gr_x_bit (by omega) ?_
  have e : bt (a2 0) (n + 1) = gr_N c L R n t l := hS 0 (by omega) 0 (by omega) (n + 1)
  rw [e]
  by_cases g : gr_N c L R n t l = true
  · rw [g]
    exact br_t rfl (h1 a2 g)
  · have g' := gr_nt g
    rw [g']
    exact br_f (by decide) (nm_r (nI_1 l) (h0 a2 g'))
theorem gr_y_nl {post : Int32 → SY → Prop} {b bl br ty : Nat → Int32} {c : Nat} {L R : Nat → Nat} {n : Nat} {t : Nat → Nat} {f l : Nat} {x : Int32}
    (hG : gr_G c L R) (ht : gr_tx n t) (hl : gr_A bl L c) (hr : gr_A br R c) (hy : gr_A ty t n) (hn : n < 8) (h5 : 5 ≤ l) (h7 : l ≤ 7)
    (h : ∀ ty' b', gr_A ty' t n → wY_nextLetter_16 post f (if gr_N c L R n t l = true then nI l else x) (nI (l - 1)) (nI c) (nI n) bl br ty' b') :
    wY_nextLetter_16 post (f + 1) x (nI l) (nI c) (nI n) bl br ty b := by
  have hy' : gr_A (upd ty n (nI l)) t n := fun q hq => by
    rw [pk_un (by omega)]
    exact hy q hq
  have e1 : nI (n + 1) - 1 = nI n := nI_pred n
  have e2 : nI l + (-1) = nI (l - 1) := by
    have := pk_m1 (l - 1)
    rw [show l - 1 + 1 = l by omega] at this
    exact this
  refine br_f (nI_ge (a := 4) (by omega) (by omega)) ?_
  rw [nI_clamp (n := n) (by omega)]
  refine ⟨vp_in_nI hn (by decide), nm_e (nm_r (nI_1 n) ?_)⟩
  refine gr_y_work (n := n + 1) (t := gr_up t n l) hG (gr_tx_up ht hn h5 h7) hl hr (gr_A_up hy) (fun b' hB => ?_)
  dsimp only
  refine gr_y_signS (s := 0) (i := 0) (j := n + 1) (gr_tx_up ht hn h5 h7) (gr_A_up hy) hB (by omega) (by omega) (by omega) ?_
  have hk := h _ b' hy'
  have e : gr_B c L R (n + 1) (gr_up t n l) 0 0 (n + 1) = gr_N c L R n t l := rfl
  rw [e]
  by_cases g : gr_N c L R n t l = true
  · rw [if_pos g] at hk
    rw [g]
    exact br_f (by decide) (nm_r e1 (nm_r e2 hk))
  · rw [if_neg g] at hk
    rw [gr_nt g]
    exact br_t (by decide) (nm_r e1 (nm_r e2 hk))
theorem i_vc_nextLetter {k : Nat} {u : SX} {v : SY} (I : i_Rel k u v) (hk : k + 4 ≤ 2048) : wpX_nextLetter (fun r u' => wpY_nextLetter (fun r' v' => r' = r ∧ i_Rel (k + 4) u' v') v) u := by
  obtain ⟨c, n, L, R, t, al, ar, tx, a, bl, br, ty, b, rfl, rfl, hG, ht, hX, hY⟩ := I
  have hn := ht.1
  unfold wpX_nextLetter wpY_nextLetter
  dsimp only
  refine pk_lt n 8 (fun ln => ?_) (fun ln => ?_)
  · have Y : ∀ (r : Int32) (a' : Nat → Int32), r = (if gr_N c L R n t 5 = true then nI 5 else if gr_N c L R n t 6 = true then nI 6 else if gr_N c L R n t 7 = true then nI 7 else 0) →
        (nI n ≤ 7 → ∃ m, wY_nextLetter_16 (fun r' v' => r' = r ∧ i_Rel (k + 4) (nI c, nI n, al, ar, tx, a') v') m 0 7 (nI c) (nI n) bl br ty b) ∧
        (¬ nI n ≤ 7 → ((-1 : Int32) = r ∧ i_Rel (k + 4) (nI c, nI n, al, ar, tx, a') (nI c, nI n, bl, br, ty, b))) := by
      intro r a' hr
      refine pk_le n 7 (fun _ => ⟨4, ?_⟩) (fun z => absurd z (by omega))
      refine gr_y_nl (l := 7) hG ht hY.1 hY.2.1 hY.2.2 ln (by omega) (by omega) (fun t1 b1 hy1 => ?_)
      refine gr_y_nl (l := 6) hG ht hY.1 hY.2.1 hy1 ln (by omega) (by omega) (fun t2 b2 hy2 => ?_)
      refine gr_y_nl (l := 5) hG ht hY.1 hY.2.1 hy2 ln (by omega) (by omega) (fun t3 b3 hy3 => ?_)
      exact br_t (nI_le (a := 4) (b := 4) (by omega) (by decide)) ⟨hr.symm, gr_mk hG ht hX ⟨hY.1, hY.2.1, hy3⟩⟩
    refine ⟨4, ?_⟩
    refine gr_x_nl (l := 5) hG ht hX.1 hX.2.1 hX.2.2 ln (by omega) (by omega) (fun a1 g5 => Y _ a1 ?_) (fun a1 g5 => ?_)
    · rw [if_pos g5]
    · refine gr_x_nl (l := 6) hG ht hX.1 hX.2.1 hX.2.2 ln (by omega) (by omega) (fun a2 g6 => Y _ a2 ?_) (fun a2 g6 => ?_)
      · rw [if_neg (by rw [g5]; decide), if_pos g6]
      · refine gr_x_nl (l := 7) hG ht hX.1 hX.2.1 hX.2.2 ln (by omega) (by omega) (fun a3 g7 => Y _ a3 ?_) (fun a3 g7 => ?_)
        · rw [if_neg (by rw [g5]; decide), if_neg (by rw [g6]; decide), if_pos g7]
        · refine br_t (nI_le (a := 8) (b := 8) (by omega) (by decide)) (Y _ a3 ?_)
          rw [if_neg (by rw [g5]; decide), if_neg (by rw [g6]; decide), if_neg (by rw [g7]; decide)]
  · exact pk_le n 7 (fun z => absurd z (by omega)) (fun _ => ⟨rfl, gr_mk hG ht hX hY⟩)
end
