/-! progress, step by step -/
theorem gr_gx_i {cx : (Nat → Int32) → Nat} {a : Nat → Int32} {Q : Prop} (h : Q) : gr_gx cx a a 0 Q := Or.inr ⟨rfl, rfl, h⟩
theorem gr_gx_g {cx : (Nat → Int32) → Nat} {a0 a a' : Nat → Int32} {g : Int32} {Q Q' : Prop} (h : gr_gx cx a0 a g Q)
    (k : cx a < cx a') : gr_gx cx a0 a' 1 Q' := by
  rcases h with ⟨_, h⟩ | ⟨_, h, _⟩
  · exact Or.inl ⟨rfl, by omega⟩
  · subst h
    exact Or.inl ⟨rfl, k⟩
theorem gr_gx_k {cx : (Nat → Int32) → Nat} {a0 a : Nat → Int32} {g : Int32} {Q Q' : Prop} (h : gr_gx cx a0 a g Q)
    (k : a = a0 → Q → Q') : gr_gx cx a0 a g Q' := by
  rcases h with h | ⟨h0, h, q⟩
  · exact Or.inl h
  · exact Or.inr ⟨h0, h, k h q⟩
theorem gr_gx_01 {cx : (Nat → Int32) → Nat} {a0 a : Nat → Int32} {g : Int32} {Q : Prop} (h : gr_gx cx a0 a g Q) : g = 0 ∨ g = 1 := by
  rcases h with h | h
  · exact Or.inr h.1
  · exact Or.inl h.1
/-- one piece of work behind another, the second has found something -/
theorem gr_gx_t {cx : (Nat → Int32) → Nat} {a0 a a' : Nat → Int32} {g g' : Int32} {Q Q1 Q2 : Prop} (h : gr_gx cx a0 a g Q)
    (h' : gr_gx cx a a' g' Q1) (hg : ¬ g' = 0) : gr_gx cx a0 a' 1 Q2 := by
  rcases h' with ⟨_, h'⟩ | ⟨h', _⟩
  · exact gr_gx_g h h'
  · exact absurd h' hg
/-- one piece of work behind another, the second has found nothing -/
theorem gr_gx_z {cx : (Nat → Int32) → Nat} {a0 a a' : Nat → Int32} {g g' : Int32} {Q Q1 Q2 : Prop} (h : gr_gx cx a0 a g Q)
    (h' : gr_gx cx a a' g' Q1) (hg : g' = 0) (k : a = a0 → Q → Q1 → Q2) : gr_gx cx a0 a' g Q2 := by
  rcases h' with ⟨h', _⟩ | ⟨_, h', q⟩
  · rw [hg] at h'
    exact absurd h' (by decide)
  · subst h'
    exact gr_gx_k h (fun e m => k e m q)
/-! a rule of X's at the places below i -/
def gr_Qx (a : Nat → Int32) (l r i : Nat) : Prop :=
  ∀ p, p < i → ∀ j, gr_en (gr_X a) r p j → bt (a (9 * l + p)) j = true
theorem gr_Qx_0 {a : Nat → Int32} {l r : Nat} : gr_Qx a l r 0 := fun p hp => absurd hp (by omega)
theorem gr_gx_eq {a0 a : Nat → Int32} {g : Int32} {l r i : Nat} (hi : i < 9) (h : gr_gx gr_cx a0 a g (gr_Qx a0 l r i))
    (e : a (9 * l + i) ||| gr_eor a r i = a (9 * l + i)) : gr_gx gr_cx a0 (gr_st a l r i) g (gr_Qx a0 l r (i + 1)) := by
  have e2 : gr_st a l r i = a := gr_upd_id e
  rw [e2]
  refine gr_gx_k h (fun ea q p hp j hj => ?_)
  subst ea
  by_cases ei : p = i
  · subst ei
    exact gr_or_id e j ((gr_eor_b a r (by omega) j).mpr hj)
  · exact q p (by omega) j hj
/-! a pass's end -/
def gr_pp (cx : (Nat → Int32) → Nat) (p : Nat) (a : Nat → Int32) (g : Int32) (Q : Prop) : Prop := (g = 1 ∧ p ≤ cx a) ∨ (g = 0 ∧ Q)
theorem gr_pp_s {cx : (Nat → Int32) → Nat} {p : Nat} {a a' : Nat → Int32} {g : Int32} {Q Q' : Prop} (hp : p ≤ cx a)
    (h : gr_gx cx a a' g Q) (k : a' = a → Q → Q') : gr_pp cx (p + 1) a' g Q' := by
  rcases h with ⟨h1, h2⟩ | ⟨h1, h2, h3⟩
  · exact Or.inl ⟨h1, by omega⟩
  · exact Or.inr ⟨h1, k h2 h3⟩
/-! a rule of the reference's at the stretches before (i, j) -/
def gr_Qy (n : Nat) (t : Nat → Nat) (b : Nat → Int32) (l r i j : Nat) : Prop :=
  ∀ p m, p ≤ m → m ≤ n → (p < i ∨ (p = i ∧ m < j)) → gr_en (gr_Sb n t b) r p m → b (81 * l + 9 * p + m) = 1
theorem gr_Qy_0 {n : Nat} {t : Nat → Nat} {b : Nat → Int32} {l r : Nat} : gr_Qy n t b l r 0 0 := by
  intro p m _ _ h
  omega
theorem gr_Qy_i {n : Nat} {t : Nat → Nat} {b : Nat → Int32} {l r i j : Nat} (h : gr_Qy n t b l r i j) (hj : n < j) :
    gr_Qy n t b l r (i + 1) (i + 1) := by
  intro p m h1 h2 h3 h4
  refine h p m h1 h2 ?_ h4
  omega
theorem gr_Qy_s {n : Nat} {t : Nat → Nat} {b : Nat → Int32} {l r i j : Nat} (h : gr_Qy n t b l r i j)
    (k : gr_en (gr_Sb n t b) r i j → b (81 * l + 9 * i + j) = 1) : gr_Qy n t b l r i (j + 1) := by
  intro p m h1 h2 h3 h4
  by_cases e : p = i ∧ m = j
  · obtain ⟨e1, e2⟩ := e
    subst e1 e2
    exact k h4
  · exact h p m h1 h2 (by omega) h4
