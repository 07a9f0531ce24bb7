/-! pure graph rows: paths by stages, counts, the closure of a row, levels -/
/-- a path whose inner vertices lie below k -/
def gr_P (E : Nat → Nat → Prop) : Nat → Nat → Nat → Prop
  | 0 => E
  | k + 1 => fun a b => gr_P E k a b ∨ (gr_P E k a k ∧ gr_P E k k b)
theorem gr_base {E : Nat → Nat → Prop} : ∀ (k : Nat) {a b : Nat}, E a b → gr_P E k a b
  | 0, _, _, h => h
  | k + 1, _, _, h => Or.inl (gr_base k h)
theorem gr_trans {E : Nat → Nat → Prop} : ∀ (k : Nat) {m a b : Nat}, m < k → gr_P E k a m → gr_P E k m b → gr_P E k a b := by
  intro k
  induction k with
  | zero => intro m a b hm; omega
  | succ k ih =>
    intro m a b hm h1 h2
    by_cases e : m = k
    · rw [e] at h1 h2
      refine Or.inr ⟨?_, ?_⟩
      · rcases h1 with h | h
        · exact h
        · exact h.1
      · rcases h2 with h | h
        · exact h
        · exact h.2
    · have hm' : m < k := by omega
      rcases h1 with h1 | h1
      · rcases h2 with h2 | h2
        · exact Or.inl (ih hm' h1 h2)
        · exact Or.inr ⟨ih hm' h1 h2.1, h2.2⟩
      · rcases h2 with h2 | h2
        · exact Or.inr ⟨h1.1, ih hm' h1.2 h2⟩
        · exact Or.inr ⟨h1.1, h2.2⟩
theorem gr_row {E : Nat → Nat → Prop} (k b : Nat) : gr_P E (k + 1) k b ↔ gr_P E k k b :=
  ⟨fun h => h.elim id (fun h => h.2), Or.inl⟩
theorem gr_col {E : Nat → Nat → Prop} (k a : Nat) : gr_P E (k + 1) a k ↔ gr_P E k a k :=
  ⟨fun h => h.elim id (fun h => h.1), Or.inl⟩
theorem gr_dom {E : Nat → Nat → Prop} {L : Nat} (hE : ∀ a b, E a b → a < L ∧ b < L) : ∀ (k : Nat) {a b : Nat}, gr_P E k a b → a < L ∧ b < L := by
  intro k
  induction k with
  | zero => intro a b h; exact hE a b h
  | succ k ih =>
    intro a b h
    rcases h with h | h
    · exact ih h
    · exact ⟨(ih h.1).1, (ih h.2).2⟩
theorem gr_first {E : Nat → Nat → Prop} : ∀ (k : Nat) {a b : Nat}, gr_P E k a b → ∃ m, E a m := by
  intro k
  induction k with
  | zero => intro a b h; exact ⟨b, h⟩
  | succ k ih =>
    intro a b h
    rcases h with h | h
    · exact ih h
    · exact ih h.1
theorem gr_close {E : Nat → Nat → Prop} {i : Nat} {R : Nat → Prop} (h0 : ∀ j, E i j → R j) (hR : ∀ m j, R m → E m j → R j) : ∀ (k m b : Nat), gr_P E k m b → (m = i ∨ R m) → R b := by
  intro k
  induction k with
  | zero =>
    intro m b h hm
    rcases hm with hm | hm
    · rw [hm] at h; exact h0 b h
    · exact hR m b hm h
  | succ k ih =>
    intro m b h hm
    rcases h with h | h
    · exact ih m b h hm
    · exact ih k b h.2 (Or.inr (ih m k h.1 hm))
theorem gr_iff {E F : Nat → Nat → Prop} (h : ∀ a b, E a b ↔ F a b) : ∀ (k a b : Nat), gr_P E k a b ↔ gr_P F k a b := by
  intro k
  induction k with
  | zero => exact h
  | succ k ih => intro a b; exact or_congr (ih a b) (and_congr (ih a k) (ih k b))
/-- how many numbers below n have Q -/
noncomputable def gr_c (Q : Nat → Prop) : Nat → Nat
  | 0 => 0
  | n + 1 => gr_c Q n + @ite Nat (Q n) (Classical.propDecidable _) 1 0
theorem gr_c1 {Q : Nat → Prop} {n : Nat} (h : Q n) : gr_c Q (n + 1) = gr_c Q n + 1 := by
  show gr_c Q n + _ = _
  rw [if_pos h]
theorem gr_c0 {Q : Nat → Prop} {n : Nat} (h : ¬ Q n) : gr_c Q (n + 1) = gr_c Q n := by
  show gr_c Q n + _ = _
  rw [if_neg h, Nat.add_zero]
theorem gr_cS (Q : Nat → Prop) (n : Nat) : gr_c Q n ≤ gr_c Q (n + 1) ∧ gr_c Q (n + 1) ≤ gr_c Q n + 1 := by
  by_cases h : Q n
  · rw [gr_c1 h]; omega
  · rw [gr_c0 h]; omega
theorem gr_cle (Q : Nat → Prop) : ∀ n, gr_c Q n ≤ n := by
  intro n
  induction n with
  | zero => exact Nat.le_refl _
  | succ n ih => have := gr_cS Q n; omega
theorem gr_cmono {Q R : Nat → Prop} : ∀ n, (∀ a, a < n → Q a → R a) → gr_c Q n ≤ gr_c R n := by
  intro n
  induction n with
  | zero => intro _; exact Nat.le_refl _
  | succ n ih =>
    intro h
    have h1 := ih (fun a ha => h a (by omega))
    have h2 := gr_cS R n
    by_cases q : Q n
    · rw [gr_c1 q, gr_c1 (h n (by omega) q)]; omega
    · rw [gr_c0 q]; omega
theorem gr_clt {Q R : Nat → Prop} : ∀ n x, x < n → (∀ a, a < n → Q a → R a) → ¬ Q x → R x → gr_c Q n < gr_c R n := by
  intro n
  induction n with
  | zero => intro x hx; omega
  | succ n ih =>
    intro x hx h q r
    by_cases e : x = n
    · rw [e] at q r
      have h1 := gr_cmono (Q := Q) (R := R) n (fun a ha => h a (by omega))
      rw [gr_c0 q, gr_c1 r]; omega
    · have h1 := ih x (by omega) (fun a ha => h a (by omega)) q r
      have h2 := gr_cS R n
      by_cases q' : Q n
      · rw [gr_c1 q', gr_c1 (h n (by omega) q')]; omega
      · rw [gr_c0 q']; omega
theorem gr_cn {Q : Nat → Prop} (n x : Nat) (hx : x < n) (h : ¬ Q x) : gr_c Q n < n := by
  have h1 := gr_clt (Q := Q) (R := fun _ => True) n x hx (fun _ _ _ => trivial) h trivial
  have h2 := gr_cle (fun _ => True) n
  omega
theorem gr_cpos {Q : Nat → Prop} (n x : Nat) (hx : x < n) (h : Q x) : 0 < gr_c Q n := by
  have h1 := gr_clt (Q := fun _ => False) (R := Q) n x hx (fun _ _ f => f.elim) (fun f => f) h
  omega
/-- after r rounds a row is complete, or holds more than r -/
def gr_done (E : Nat → Nat → Prop) (L : Nat) (R : Nat → Nat → Prop) (r : Nat) : Prop :=
  ∀ i, i < 8 → (∀ j, gr_P E L i j → R i j) ∨ r + 1 ≤ gr_c (R i) 8
theorem gr_done0 {E R : Nat → Nat → Prop} (L : Nat) (hE : ∀ a b, E a b → a < 8 ∧ b < 8) (h : ∀ a b, E a b → R a b) : gr_done E L R 0 := by
  intro i hi
  by_cases c : ∃ m, E i m
  · obtain ⟨m, hm⟩ := c
    exact Or.inr (gr_cpos 8 m (hE i m hm).2 (h i m hm))
  · exact Or.inl (fun j hj => absurd (gr_first L hj) c)
theorem gr_doneS {E R R' : Nat → Nat → Prop} {L r : Nat} (hE : ∀ a b, E a b → a < 8 ∧ b < 8) (h : gr_done E L R r) (hEr : ∀ a b, E a b → R a b) (hm : ∀ a b, R a b → R' a b) (hs : ∀ i m j, R i m → E m j → R' i j) : gr_done E L R' (r + 1) := by
  intro i hi
  rcases h i hi with h | h
  · exact Or.inl (fun j hj => hm _ _ (h j hj))
  · by_cases c : ∃ x, x < 8 ∧ R' i x ∧ ¬ R i x
    · obtain ⟨x, hx, h1, h2⟩ := c
      have h3 := gr_clt (Q := R i) (R := R' i) 8 x hx (fun a _ => hm i a) h2 h1
      exact Or.inr (by omega)
    · refine Or.inl (fun j hj => hm _ _ ?_)
      refine gr_close (R := R i) (i := i) (hEr i) (fun m j' h1 h2 => ?_) L i j hj (Or.inl rfl)
      by_cases q : R i j'
      · exact q
      · exact absurd ⟨j', (hE m j' h2).2, hs i m j' h1 h2, q⟩ c
theorem gr_done8 {E R : Nat → Nat → Prop} {L : Nat} (h : gr_done E L R 8) (i j : Nat) (hi : i < 8) (hj : gr_P E L i j) : R i j := by
  rcases h i hi with h | h
  · exact h j hj
  · have := gr_cle (R i) 8
    omega
/-- the number of locks from which b is reached -/
noncomputable def gr_A (E : Nat → Nat → Prop) (L b : Nat) : Nat := gr_c (fun a => gr_P E L a b) L
theorem gr_Alt {E : Nat → Nat → Prop} {L : Nat} (hE : ∀ a b, E a b → a < L ∧ b < L) (hac : ∀ a, ¬ gr_P E L a a) {a b : Nat} (h : E a b) : gr_A E L a < gr_A E L b :=
  gr_clt (Q := fun x => gr_P E L x a) (R := fun x => gr_P E L x b) L a (hE a b h).1 (fun _ _ hx => gr_trans L (hE a b h).1 hx (gr_base L h)) (hac a) (gr_base L h)
theorem gr_An {E : Nat → Nat → Prop} {L : Nat} (hac : ∀ a, ¬ gr_P E L a a) {b : Nat} (hb : b < L) : gr_A E L b < L :=
  gr_cn (Q := fun x => gr_P E L x b) L b hb (hac b)
/-- levels within round r: D holds the pairs done in it -/
def gr_LI (E : Nat → Nat → Prop) (L r : Nat) (D : Nat → Nat → Prop) (lev : Nat → Nat) : Prop :=
  (∀ b, lev b ≤ gr_A E L b) ∧ (∀ b, lev b = 0 ∨ ∃ a, E a b ∧ lev b ≤ lev a + 1) ∧ (∀ a b, E a b → gr_A E L b ≤ r → lev a + 1 ≤ lev b) ∧ (∀ a b, E a b → gr_A E L b ≤ r + 1 → D a b → lev a + 1 ≤ lev b)
theorem gr_LIno {E : Nat → Nat → Prop} {L r : Nat} {D D' : Nat → Nat → Prop} {lev : Nat → Nat} (a b : Nat) (h : gr_LI E L r D lev) (hn : E a b → lev a + 1 ≤ lev b) (hD : ∀ x y, D' x y → D x y ∨ (x = a ∧ y = b)) : gr_LI E L r D' lev := by
  refine ⟨h.1, h.2.1, h.2.2.1, fun x y e hr d => ?_⟩
  rcases hD x y d with d | d
  · exact h.2.2.2 x y e hr d
  · rw [d.1, d.2] at e ⊢
    exact hn e
theorem gr_LIup {E : Nat → Nat → Prop} {L r : Nat} {D D' : Nat → Nat → Prop} {lev : Nat → Nat} (hE : ∀ a b, E a b → a < L ∧ b < L) (hac : ∀ a, ¬ gr_P E L a a) (a b : Nat) (h : gr_LI E L r D lev) (hab : E a b) (hlt : lev b < lev a + 1) (hD : ∀ x y, D' x y → D x y ∨ (x = a ∧ y = b)) (lev' : Nat → Nat) (hb : lev' b = lev a + 1) (ho : ∀ j, j ≠ b → lev' j = lev j) : gr_LI E L r D' lev' := by
  have hA := gr_Alt hE hac hab
  have hne : a ≠ b := by
    intro e; rw [e] at hA; omega
  have hup : ∀ j, lev j ≤ lev' j := by
    intro j
    by_cases e : j = b
    · rw [e, hb]; omega
    · rw [ho j e]; omega
  have hnr : ¬ gr_A E L b ≤ r := fun q => by
    have := h.2.2.1 a b hab q
    omega
  have key : ∀ x y, E x y → gr_A E L y ≤ r + 1 → lev x + 1 ≤ lev y → lev' x + 1 ≤ lev' y := by
    intro x y e hr hl
    have hxy := gr_Alt hE hac e
    by_cases ex : x = b
    · rw [ex] at hxy; omega
    · rw [ho x ex]
      have := hup y
      omega
  refine ⟨fun j => ?_, fun j => ?_, fun x y e hr => ?_, fun x y e hr d => ?_⟩
  · by_cases e : j = b
    · rw [e, hb]
      have := h.1 a
      omega
    · rw [ho j e]; exact h.1 j
  · by_cases e : j = b
    · rw [e, hb]
      refine Or.inr ⟨a, hab, ?_⟩
      rw [ho a hne]; omega
    · rw [ho j e]
      rcases h.2.1 j with q | ⟨s, q1, q2⟩
      · exact Or.inl q
      · exact Or.inr ⟨s, q1, by have := hup s; omega⟩
  · exact key x y e (by omega) (h.2.2.1 x y e hr)
  · rcases hD x y d with d | d
    · exact key x y e hr (h.2.2.2 x y e hr d)
    · rw [d.1, d.2, ho a hne, hb]
      exact Nat.le_refl _
theorem gr_LInext {E : Nat → Nat → Prop} {L r : Nat} {D : Nat → Nat → Prop} {lev : Nat → Nat} (h : gr_LI E L r D lev) (hD : ∀ x y, E x y → D x y) : gr_LI E L (r + 1) (fun _ _ => False) lev :=
  ⟨h.1, h.2.1, fun x y e hr => h.2.2.2 x y e hr (hD x y e), fun _ _ _ _ f => f.elim⟩
theorem gr_LI0 {E : Nat → Nat → Prop} {L : Nat} (hE : ∀ a b, E a b → a < L ∧ b < L) (hac : ∀ a, ¬ gr_P E L a a) {lev : Nat → Nat} (hl : ∀ j, lev j = 0) : gr_LI E L 0 (fun _ _ => False) lev := by
  refine ⟨fun b => ?_, fun b => Or.inl (hl b), fun a b e hr => ?_, fun _ _ _ _ f => f.elim⟩
  · rw [hl b]; exact Nat.zero_le _
  · have := gr_Alt hE hac e
    omega
theorem gr_LIle {E : Nat → Nat → Prop} {L r r' : Nat} {D D' : Nat → Nat → Prop} {lev lev' : Nat → Nat} (hE : ∀ a b, E a b → a < L ∧ b < L) (hac : ∀ a, ¬ gr_P E L a a) (h : gr_LI E L r D lev) (h' : gr_LI E L r' D' lev') (hr' : L ≤ r' + 1) : ∀ n b, gr_A E L b ≤ n → lev b ≤ lev' b := by
  intro n
  induction n with
  | zero =>
    intro b hb
    have := h.1 b
    omega
  | succ n ih =>
    intro b hb
    rcases h.2.1 b with q | ⟨a, q1, q2⟩
    · omega
    · have h1 := gr_Alt hE hac q1
      have h2 := ih a (by omega)
      have h3 := gr_An hac (hE a b q1).2
      have h4 := h'.2.2.1 a b q1 (by omega)
      omega
theorem gr_uniq {E : Nat → Nat → Prop} {L r r' : Nat} {D D' : Nat → Nat → Prop} {lev lev' : Nat → Nat} (hE : ∀ a b, E a b → a < L ∧ b < L) (hac : ∀ a, ¬ gr_P E L a a) (h : gr_LI E L r D lev) (h' : gr_LI E L r' D' lev') (hr : L ≤ r + 1) (hr' : L ≤ r' + 1) (b : Nat) : lev b = lev' b :=
  Nat.le_antisymm (gr_LIle hE hac h h' hr' _ b (Nat.le_refl _)) (gr_LIle hE hac h' h hr _ b (Nat.le_refl _))
