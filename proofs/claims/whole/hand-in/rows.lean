section
/-! rows of kit/rows (pk_, ek_) and small ones of my own -/
theorem pk_us {f : Nat → Int32} {k : Nat} {x : Int32} : upd f k x k = x := if_pos rfl
theorem pk_un {f : Nat → Int32} {k j : Nat} {x : Int32} (h : j ≠ k) : upd f k x j = f j := if_neg h
theorem pk_sub {a b : Nat} (h : b ≤ a) : nI a - nI b = nI (a - b) := by
  obtain ⟨c, rfl⟩ : ∃ c, a = c + b := ⟨a - b, by omega⟩
  rw [← nI_add, Int32.add_sub_cancel, Nat.add_sub_cancel]
theorem pk_m1 (n : Nat) : nI (n + 1) + (-1) = nI n := by
  rw [← nI_1, Int32.add_assoc, show (1 : Int32) + (-1) = 0 from rfl, Int32.add_zero]
theorem pk_mul (a b : Nat) : nI a * nI b = nI (a * b) := (Int32.ofNat_mul a b).symm
theorem pk_div {a d : Nat} (ha : a < 2 ^ 31) (h0 : 0 < d) (hd : d < 2 ^ 31) : nI a / nI d = nI (a / d) := by
  apply Int32.toInt_inj.mp
  rw [lg_idiv_nonneg (by rw [nI_toInt ha]; omega) (by rw [nI_toInt hd]; omega), nI_toInt ha, nI_toInt hd, nI_toInt (Nat.lt_of_le_of_lt (Nat.div_le_self a d) ha)]
  first | rfl | exact (Int.natCast_ediv _ _).symm
theorem pk_rem {a d : Nat} (ha : a < 2 ^ 31) (h0 : 0 < d) (hd : d < 2 ^ 31) : nI a - nI a / nI d * nI d = nI (a % d) := by
  rw [pk_div ha h0 hd, pk_mul, pk_sub (Nat.div_mul_le_self a d)]
  exact congrArg nI (by have := Nat.div_add_mod' a d; omega)
theorem pk_ix (x : Int32) {n : Nat} (hn : n < 2 ^ 31) : x < 0 ∨ nI n ≤ x ∨ ∃ j : Nat, j < n ∧ x = nI j := by
  by_cases h : x < 0
  · exact Or.inl h
  · obtain ⟨j, hj, rfl⟩ := nI_of h
    by_cases h2 : j < n
    · exact Or.inr (Or.inr ⟨j, h2, rfl⟩)
    · exact Or.inr (Or.inl (nI_le (by omega) hj))
theorem pk_le {x y : Int32} {A B : Prop} (a b : Nat) (f : a ≤ b → A) (g : b < a → B) (hx : x = nI a := by rfl) (hy : y = nI b := by rfl) (ha : a < 2 ^ 31 := by omega) (hb : b < 2 ^ 31 := by omega) : (x ≤ y → A) ∧ (¬ x ≤ y → B) := by
  subst hx hy
  rw [nI_leI ha hb]
  exact ⟨f, fun z => g (by omega)⟩
theorem pk_lt {x y : Int32} {A B : Prop} (a b : Nat) (f : a < b → A) (g : b ≤ a → B) (hx : x = nI a := by rfl) (hy : y = nI b := by rfl) (ha : a < 2 ^ 31 := by omega) (hb : b < 2 ^ 31 := by omega) : (x < y → A) ∧ (¬ x < y → B) := by
  subst hx hy
  rw [nI_ltI ha hb]
  exact ⟨f, fun z => g (by omega)⟩
theorem pk_eq {x y : Int32} {A B : Prop} (a b : Nat) (f : a = b → A) (g : a ≠ b → B) (hx : x = nI a := by rfl) (hy : y = nI b := by rfl) (ha : a < 2 ^ 31 := by omega) (hb : b < 2 ^ 31 := by omega) : (x = y → A) ∧ (¬ x = y → B) := by
  subst hx hy
  rw [nI_eq ha hb]
  exact ⟨f, g⟩
theorem pk_in {x : Int32} (n N : Nat) (h : n < N) (hx : x = nI n := by rfl) (hN : N < 2 ^ 31 := by omega) : vp_in x N := by
  subst hx
  exact vp_in_nI h hN
theorem pk_cl {x : Int32} (n : Nat) (hx : x = nI n := by rfl) (h : n < 2 ^ 31 := by omega) : x.toNatClampNeg = n := by
  subst hx
  exact nI_clamp h
theorem pk_tn {n : Nat} (h : n < 2 ^ 32) : (nI n).toBitVec.toNat = n := Nat.mod_eq_of_lt h
theorem pk_and (x : Int32) {m : Int32} (k : Nat) (hm : m.toBitVec.toNat = 2 ^ k - 1) : x &&& m = nI (x.toBitVec.toNat % 2 ^ k) := by
  apply Int32.toBitVec_inj.mp
  apply BitVec.eq_of_toNat_eq
  rw [Int32.toBitVec_and, BitVec.toNat_and, hm, Nat.and_two_pow_sub_one_eq_mod]
  show _ = (BitVec.ofNat 32 _).toNat
  rw [BitVec.toNat_ofNat]
  exact (Nat.mod_eq_of_lt (Nat.lt_of_le_of_lt (Nat.mod_le _ _) x.toBitVec.isLt)).symm
theorem pk_andN {n : Nat} (h : n < 2 ^ 32) {m : Int32} (k : Nat) (hm : m.toBitVec.toNat = 2 ^ k - 1) : nI n &&& m = nI (n % 2 ^ k) := by
  rw [pk_and _ k hm, pk_tn h]
theorem pk_shr (a s : Int32) (k : Nat) (hs : (s.toBitVec.smod 32).toNat = k) : (a >>> s).toInt = a.toInt >>> k := by
  show (a.toBitVec.sshiftRight (s.toBitVec.smod 32).toNat).toInt = _
  rw [hs, BitVec.toInt_sshiftRight]
  rfl
theorem pk_shrN {n : Nat} (h : n < 2 ^ 31) (s : Int32) (k : Nat) (hs : (s.toBitVec.smod 32).toNat = k) : nI n >>> s = nI (n / 2 ^ k) := by
  apply Int32.toInt_inj.mp
  have h2 : n / 2 ^ k ≤ n := Nat.div_le_self _ _
  rw [pk_shr _ _ k hs, nI_toInt h, nI_toInt (by omega), Int.shiftRight_eq_div_pow]
  rfl
theorem pk_loop {σ : Type} (W : Nat → Nat → σ → Prop) (I : Nat → σ → Prop) (e i0 : Nat) (s : σ) (hi : i0 ≤ e) (h0 : I i0 s) (hx : ∀ n s, I e s → W (n + 1) e s)
    (hs : ∀ n i s, i < e → I i s → (∀ s', I (i + 1) s' → W n (i + 1) s') → W (n + 1) i s) : ∃ n, W n i0 s :=
  ⟨e + 1, loop_i W I e hx hs (e + 1) i0 s hi (by omega) h0⟩
theorem ek_if {c d A B : Prop} (e : c ↔ d) (f : d → A) (g : ¬ d → B) : (c → A) ∧ (¬ c → B) :=
  ⟨fun z => f (e.mp z), fun z => g (fun y => z (e.mpr y))⟩
theorem ek_v {α : Sort _} {P : α → Prop} {a b : α} (e : a = b) (h : P b) : P a := e ▸ h
theorem pk_least (P : Nat → Prop) (h : ∃ k, P k) : ∃ k, P k ∧ ∀ j, j < k → ¬ P j := by
  obtain ⟨k, hk⟩ := h
  induction k using Nat.strongRecOn with
  | ind k ih =>
    by_cases e : ∃ j, j < k ∧ P j
    · obtain ⟨j, hj, pj⟩ := e
      exact ih j hj pj
    · exact ⟨k, hk, fun j hj pj => e ⟨j, hj, pj⟩⟩
theorem ll_uu (f : Nat → Int32) (k : Nat) (x y : Int32) : upd (upd f k x) k y = upd f k y := by
  funext j
  by_cases h : j = k
  · rw [h, pk_us, pk_us]
  · rw [pk_un h, pk_un h, pk_un h]
theorem ll_ui (f : Nat → Int32) (k : Nat) (x : Int32) (h : f k = x) : upd f k x = f := by
  funext j
  by_cases e : j = k
  · rw [e, pk_us, h]
  · rw [pk_un e]
theorem ll_uc (f : Nat → Int32) {k m : Nat} (x y : Int32) (h : k ≠ m) : upd (upd f k x) m y = upd (upd f m y) k x := by
  funext j
  by_cases e : j = m
  · rw [e, pk_us, pk_un (fun q => h q.symm), pk_us]
  · by_cases e' : j = k
    · rw [e', pk_un h, pk_us, pk_us]
    · rw [pk_un e, pk_un e', pk_un e', pk_un e]
theorem ll_b1 : vp_nar .boolean 1 = 1 := rfl
theorem ll_b0 : vp_nar .boolean 0 = 0 := rfl
/-- an array of booleans -/
def ll_B (a : Nat → Int32) : Prop := ∀ j, a j = 0 ∨ a j = 1
theorem ll_B0 : ll_B (fun _ => 0) := fun _ => Or.inl rfl
theorem ll_Bu {a : Nat → Int32} (h : ll_B a) (k : Nat) {x : Int32} (hx : x = 0 ∨ x = 1) : ll_B (upd a k x) := by
  intro j
  by_cases e : j = k
  · rw [e, pk_us]; exact hx
  · rw [pk_un e]; exact h j
theorem ll_bn {x : Int32} (h : x = 0 ∨ x = 1) : vp_nar .boolean x = x := by
  rcases h with h | h
  · rw [h]; rfl
  · rw [h]; rfl
theorem ll_bnn {x : Int32} (h : x = 0 ∨ x = 1) : narrow .boolean (.int x) = .int x := by
  rcases h with h | h
  · rw [h]; rfl
  · rw [h]; rfl
theorem ll_m1 (n : Nat) (h : n < 2 ^ 31) : ¬ (-1 : Int32) = nI n := by
  intro e
  have h1 := congrArg Int32.toInt e
  rw [nI_toInt h, show (-1 : Int32).toInt = -1 from by decide] at h1
  omega
theorem ll_8 (n : Nat) : nI n * 8 = nI (n * 8) := pk_mul n 8
theorem ll_ix {x : Int32} {n : Nat} (h0 : ¬ x < 0) (h : ¬ nI n ≤ x) (hn : n < 2 ^ 31) : ∃ j : Nat, j < n ∧ x = nI j := by
  rcases pk_ix x hn with q | q | q
  · exact absurd q h0
  · exact absurd q h
  · exact q
end
section
/-! pure graph rows: paths by stages, counts, the closure of a row, levels -/
/-- a path whose inner vertices lie below k -/
def gr_P (E : Nat → Nat → Prop) : Nat → Nat → Nat → Prop
  | 0 => E
  | k + 1 => fun a b => gr_P E k a b ∨ (gr_P E k a k ∧ gr_P E k k b)
theorem gr_base {E : Nat → Nat → Prop} : ∀ (k : Nat) {a b : Nat}, E a b → gr_P E k a b
  | 0, _, _, h => h
  | k + 1, _, _, h => Or.inl (gr_base k h)
theorem gr_trans {E : Nat → Nat → Prop} : ∀ (k : Nat) {m a b : Nat}, m < k → gr_P E k a m → gr_P E k m b → gr_P E k a b := by
  intro k
  induction k with
  | zero => intro m a b hm; omega
  | succ k ih =>
    intro m a b hm h1 h2
    by_cases e : m = k
    · rw [e] at h1 h2
      refine Or.inr ⟨?_, ?_⟩
      · rcases h1 with h | h
        · exact h
        · exact h.1
      · rcases h2 with h | h
        · exact h
        · exact h.2
    · have hm' : m < k := by omega
      rcases h1 with h1 | h1
      · rcases h2 with h2 | h2
        · exact Or.inl (ih hm' h1 h2)
        · exact Or.inr ⟨ih hm' h1 h2.1, h2.2⟩
      · rcases h2 with h2 | h2
        · exact Or.inr ⟨h1.1, ih hm' h1.2 h2⟩
        · exact Or.inr ⟨h1.1, h2.2⟩
theorem gr_row {E : Nat → Nat → Prop} (k b : Nat) : gr_P E (k + 1) k b ↔ gr_P E k k b :=
  ⟨fun h => h.elim id (fun h => h.2), Or.inl⟩
theorem gr_col {E : Nat → Nat → Prop} (k a : Nat) : gr_P E (k + 1) a k ↔ gr_P E k a k :=
  ⟨fun h => h.elim id (fun h => h.1), Or.inl⟩
theorem gr_dom {E : Nat → Nat → Prop} {L : Nat} (hE : ∀ a b, E a b → a < L ∧ b < L) : ∀ (k : Nat) {a b : Nat}, gr_P E k a b → a < L ∧ b < L := by
  intro k
  induction k with
  | zero => intro a b h; exact hE a b h
  | succ k ih =>
    intro a b h
    rcases h with h | h
    · exact ih h
    · exact ⟨(ih h.1).1, (ih h.2).2⟩
theorem gr_first {E : Nat → Nat → Prop} : ∀ (k : Nat) {a b : Nat}, gr_P E k a b → ∃ m, E a m := by
  intro k
  induction k with
  | zero => intro a b h; exact ⟨b, h⟩
  | succ k ih =>
    intro a b h
    rcases h with h | h
    · exact ih h
    · exact ih h.1
theorem gr_close {E : Nat → Nat → Prop} {i : Nat} {R : Nat → Prop} (h0 : ∀ j, E i j → R j) (hR : ∀ m j, R m → E m j → R j) : ∀ (k m b : Nat), gr_P E k m b → (m = i ∨ R m) → R b := by
  intro k
  induction k with
  | zero =>
    intro m b h hm
    rcases hm with hm | hm
    · rw [hm] at h; exact h0 b h
    · exact hR m b hm h
  | succ k ih =>
    intro m b h hm
    rcases h with h | h
    · exact ih m b h hm
    · exact ih k b h.2 (Or.inr (ih m k h.1 hm))
theorem gr_iff {E F : Nat → Nat → Prop} (h : ∀ a b, E a b ↔ F a b) : ∀ (k a b : Nat), gr_P E k a b ↔ gr_P F k a b := by
  intro k
  induction k with
  | zero => exact h
  | succ k ih => intro a b; exact or_congr (ih a b) (and_congr (ih a k) (ih k b))
/-- how many numbers below n have Q -/
noncomputable def gr_c (Q : Nat → Prop) : Nat → Nat
  | 0 => 0
  | n + 1 => gr_c Q n + @ite Nat (Q n) (Classical.propDecidable _) 1 0
theorem gr_c1 {Q : Nat → Prop} {n : Nat} (h : Q n) : gr_c Q (n + 1) = gr_c Q n + 1 := by
  show gr_c Q n + _ = _
  rw [if_pos h]
theorem gr_c0 {Q : Nat → Prop} {n : Nat} (h : ¬ Q n) : gr_c Q (n + 1) = gr_c Q n := by
  show gr_c Q n + _ = _
  rw [if_neg h, Nat.add_zero]
theorem gr_cS (Q : Nat → Prop) (n : Nat) : gr_c Q n ≤ gr_c Q (n + 1) ∧ gr_c Q (n + 1) ≤ gr_c Q n + 1 := by
  by_cases h : Q n
  · rw [gr_c1 h]; omega
  · rw [gr_c0 h]; omega
theorem gr_cle (Q : Nat → Prop) : ∀ n, gr_c Q n ≤ n := by
  intro n
  induction n with
  | zero => exact Nat.le_refl _
  | succ n ih => have := gr_cS Q n; omega
theorem gr_cmono {Q R : Nat → Prop} : ∀ n, (∀ a, a < n → Q a → R a) → gr_c Q n ≤ gr_c R n := by
  intro n
  induction n with
  | zero => intro _; exact Nat.le_refl _
  | succ n ih =>
    intro h
    have h1 := ih (fun a ha => h a (by omega))
    have h2 := gr_cS R n
    by_cases q : Q n
    · rw [gr_c1 q, gr_c1 (h n (by omega) q)]; omega
    · rw [gr_c0 q]; omega
theorem gr_clt {Q R : Nat → Prop} : ∀ n x, x < n → (∀ a, a < n → Q a → R a) → ¬ Q x → R x → gr_c Q n < gr_c R n := by
  intro n
  induction n with
  | zero => intro x hx; omega
  | succ n ih =>
    intro x hx h q r
    by_cases e : x = n
    · rw [e] at q r
      have h1 := gr_cmono (Q := Q) (R := R) n (fun a ha => h a (by omega))
      rw [gr_c0 q, gr_c1 r]; omega
    · have h1 := ih x (by omega) (fun a ha => h a (by omega)) q r
      have h2 := gr_cS R n
      by_cases q' : Q n
      · rw [gr_c1 q', gr_c1 (h n (by omega) q')]; omega
      · rw [gr_c0 q']; omega
theorem gr_cn {Q : Nat → Prop} (n x : Nat) (hx : x < n) (h : ¬ Q x) : gr_c Q n < n := by
  have h1 := gr_clt (Q := Q) (R := fun _ => True) n x hx (fun _ _ _ => trivial) h trivial
  have h2 := gr_cle (fun _ => True) n
  omega
theorem gr_cpos {Q : Nat → Prop} (n x : Nat) (hx : x < n) (h : Q x) : 0 < gr_c Q n := by
  have h1 := gr_clt (Q := fun _ => False) (R := Q) n x hx (fun _ _ f => f.elim) (fun f => f) h
  omega
/-- after r rounds a row is complete, or holds more than r -/
def gr_done (E : Nat → Nat → Prop) (L : Nat) (R : Nat → Nat → Prop) (r : Nat) : Prop :=
  ∀ i, i < 8 → (∀ j, gr_P E L i j → R i j) ∨ r + 1 ≤ gr_c (R i) 8
theorem gr_done0 {E R : Nat → Nat → Prop} (L : Nat) (hE : ∀ a b, E a b → a < 8 ∧ b < 8) (h : ∀ a b, E a b → R a b) : gr_done E L R 0 := by
  intro i hi
  by_cases c : ∃ m, E i m
  · obtain ⟨m, hm⟩ := c
    exact Or.inr (gr_cpos 8 m (hE i m hm).2 (h i m hm))
  · exact Or.inl (fun j hj => absurd (gr_first L hj) c)
theorem gr_doneS {E R R' : Nat → Nat → Prop} {L r : Nat} (hE : ∀ a b, E a b → a < 8 ∧ b < 8) (h : gr_done E L R r) (hEr : ∀ a b, E a b → R a b) (hm : ∀ a b, R a b → R' a b) (hs : ∀ i m j, R i m → E m j → R' i j) : gr_done E L R' (r + 1) := by
  intro i hi
  rcases h i hi with h | h
  · exact Or.inl (fun j hj => hm _ _ (h j hj))
  · by_cases c : ∃ x, x < 8 ∧ R' i x ∧ ¬ R i x
    · obtain ⟨x, hx, h1, h2⟩ := c
      have h3 := gr_clt (Q := R i) (R := R' i) 8 x hx (fun a _ => hm i a) h2 h1
      exact Or.inr (by omega)
    · refine Or.inl (fun j hj => hm _ _ ?_)
      refine gr_close (R := R i) (i := i) (hEr i) (fun m j' h1 h2 => ?_) L i j hj (Or.inl rfl)
      by_cases q : R i j'
      · exact q
      · exact absurd ⟨j', (hE m j' h2).2, hs i m j' h1 h2, q⟩ c
theorem gr_done8 {E R : Nat → Nat → Prop} {L : Nat} (h : gr_done E L R 8) (i j : Nat) (hi : i < 8) (hj : gr_P E L i j) : R i j := by
  rcases h i hi with h | h
  · exact h j hj
  · have := gr_cle (R i) 8
    omega
/-- the number of locks from which b is reached -/
noncomputable def gr_A (E : Nat → Nat → Prop) (L b : Nat) : Nat := gr_c (fun a => gr_P E L a b) L
theorem gr_Alt {E : Nat → Nat → Prop} {L : Nat} (hE : ∀ a b, E a b → a < L ∧ b < L) (hac : ∀ a, ¬ gr_P E L a a) {a b : Nat} (h : E a b) : gr_A E L a < gr_A E L b :=
  gr_clt (Q := fun x => gr_P E L x a) (R := fun x => gr_P E L x b) L a (hE a b h).1 (fun _ _ hx => gr_trans L (hE a b h).1 hx (gr_base L h)) (hac a) (gr_base L h)
theorem gr_An {E : Nat → Nat → Prop} {L : Nat} (hac : ∀ a, ¬ gr_P E L a a) {b : Nat} (hb : b < L) : gr_A E L b < L :=
  gr_cn (Q := fun x => gr_P E L x b) L b hb (hac b)
/-- levels within round r: D holds the pairs done in it -/
def gr_LI (E : Nat → Nat → Prop) (L r : Nat) (D : Nat → Nat → Prop) (lev : Nat → Nat) : Prop :=
  (∀ b, lev b ≤ gr_A E L b) ∧ (∀ b, lev b = 0 ∨ ∃ a, E a b ∧ lev b ≤ lev a + 1) ∧ (∀ a b, E a b → gr_A E L b ≤ r → lev a + 1 ≤ lev b) ∧ (∀ a b, E a b → gr_A E L b ≤ r + 1 → D a b → lev a + 1 ≤ lev b)
theorem gr_LIno {E : Nat → Nat → Prop} {L r : Nat} {D D' : Nat → Nat → Prop} {lev : Nat → Nat} (a b : Nat) (h : gr_LI E L r D lev) (hn : E a b → lev a + 1 ≤ lev b) (hD : ∀ x y, D' x y → D x y ∨ (x = a ∧ y = b)) : gr_LI E L r D' lev := by
  refine ⟨h.1, h.2.1, h.2.2.1, fun x y e hr d => ?_⟩
  rcases hD x y d with d | d
  · exact h.2.2.2 x y e hr d
  · rw [d.1, d.2] at e ⊢
    exact hn e
theorem gr_LIup {E : Nat → Nat → Prop} {L r : Nat} {D D' : Nat → Nat → Prop} {lev : Nat → Nat} (hE : ∀ a b, E a b → a < L ∧ b < L) (hac : ∀ a, ¬ gr_P E L a a) (a b : Nat) (h : gr_LI E L r D lev) (hab : E a b) (hlt : lev b < lev a + 1) (hD : ∀ x y, D' x y → D x y ∨ (x = a ∧ y = b)) (lev' : Nat → Nat) (hb : lev' b = lev a + 1) (ho : ∀ j, j ≠ b → lev' j = lev j) : gr_LI E L r D' lev' := by
  have hA := gr_Alt hE hac hab
  have hne : a ≠ b := by
    intro e; rw [e] at hA; omega
  have hup : ∀ j, lev j ≤ lev' j := by
    intro j
    by_cases e : j = b
    · rw [e, hb]; omega
    · rw [ho j e]; omega
  have hnr : ¬ gr_A E L b ≤ r := fun q => by
    have := h.2.2.1 a b hab q
    omega
  have key : ∀ x y, E x y → gr_A E L y ≤ r + 1 → lev x + 1 ≤ lev y → lev' x + 1 ≤ lev' y := by
    intro x y e hr hl
    have hxy := gr_Alt hE hac e
    by_cases ex : x = b
    · rw [ex] at hxy; omega
    · rw [ho x ex]
      have := hup y
      omega
  refine ⟨fun j => ?_, fun j => ?_, fun x y e hr => ?_, fun x y e hr d => ?_⟩
  · by_cases e : j = b
    · rw [e, hb]
      have := h.1 a
      omega
    · rw [ho j e]; exact h.1 j
  · by_cases e : j = b
    · rw [e, hb]
      refine Or.inr ⟨a, hab, ?_⟩
      rw [ho a hne]; omega
    · rw [ho j e]
      rcases h.2.1 j with q | ⟨s, q1, q2⟩
      · exact Or.inl q
      · exact Or.inr ⟨s, q1, by have := hup s; omega⟩
  · exact key x y e (by omega) (h.2.2.1 x y e hr)
  · rcases hD x y d with d | d
    · exact key x y e hr (h.2.2.2 x y e hr d)
    · rw [d.1, d.2, ho a hne, hb]
      exact Nat.le_refl _
theorem gr_LInext {E : Nat → Nat → Prop} {L r : Nat} {D : Nat → Nat → Prop} {lev : Nat → Nat} (h : gr_LI E L r D lev) (hD : ∀ x y, E x y → D x y) : gr_LI E L (r + 1) (fun _ _ => False) lev :=
  ⟨h.1, h.2.1, fun x y e hr => h.2.2.2 x y e hr (hD x y e), fun _ _ _ _ f => f.elim⟩
theorem gr_LI0 {E : Nat → Nat → Prop} {L : Nat} (hE : ∀ a b, E a b → a < L ∧ b < L) (hac : ∀ a, ¬ gr_P E L a a) {lev : Nat → Nat} (hl : ∀ j, lev j = 0) : gr_LI E L 0 (fun _ _ => False) lev := by
  refine ⟨fun b => ?_, fun b => Or.inl (hl b), fun a b e hr => ?_, fun _ _ _ _ f => f.elim⟩
  · rw [hl b]; exact Nat.zero_le _
  · have := gr_Alt hE hac e
    omega
theorem gr_LIle {E : Nat → Nat → Prop} {L r r' : Nat} {D D' : Nat → Nat → Prop} {lev lev' : Nat → Nat} (hE : ∀ a b, E a b → a < L ∧ b < L) (hac : ∀ a, ¬ gr_P E L a a) (h : gr_LI E L r D lev) (h' : gr_LI E L r' D' lev') (hr' : L ≤ r' + 1) : ∀ n b, gr_A E L b ≤ n → lev b ≤ lev' b := by
  intro n
  induction n with
  | zero =>
    intro b hb
    have := h.1 b
    omega
  | succ n ih =>
    intro b hb
    rcases h.2.1 b with q | ⟨a, q1, q2⟩
    · omega
    · have h1 := gr_Alt hE hac q1
      have h2 := ih a (by omega)
      have h3 := gr_An hac (hE a b q1).2
      have h4 := h'.2.2.1 a b q1 (by omega)
      omega
theorem gr_uniq {E : Nat → Nat → Prop} {L r r' : Nat} {D D' : Nat → Nat → Prop} {lev lev' : Nat → Nat} (hE : ∀ a b, E a b → a < L ∧ b < L) (hac : ∀ a, ¬ gr_P E L a a) (h : gr_LI E L r D lev) (h' : gr_LI E L r' D' lev') (hr : L ≤ r + 1) (hr' : L ≤ r' + 1) (b : Nat) : lev b = lev' b :=
  Nat.le_antisymm (gr_LIle hE hac h h' hr' _ b (Nat.le_refl _)) (gr_LIle hE hac h' h hr _ b (Nat.le_refl _))
end
section
/-! the machine, pure; the small walks of X -/
/-- the depth at which a stack of depth d comes to rest -/
def ll_sd (ln fp fc : Nat → Int32) (b : Nat) : Nat → Nat
  | 0 => 0
  | d + 1 => if fc (b + d) < ln (fp (b + d)).toNatClampNeg then d + 1 else ll_sd ln fp fc b d
/-- the frames of a stack -/
def ll_FR (ln fp fc : Nat → Int32) (b d : Nat) : Prop :=
  ∀ i, i < d → ∃ p c n, fp (b + i) = nI p ∧ i ≤ p ∧ p < 8 ∧ fc (b + i) = nI c ∧ ln p = nI n ∧ c ≤ n ∧ n ≤ 8
section
variable {nl nt cl se vd lk rc : Int32} {op ar ln en so lv ed pa re fp fc dp hd hc : Nat → Int32}
theorem ll_sd_le {b : Nat} : ∀ d, ll_sd ln fp fc b d ≤ d := by
  intro d
  induction d with
  | zero => exact Nat.le_refl _
  | succ d ih =>
    show (if _ then d + 1 else ll_sd ln fp fc b d) ≤ d + 1
    split
    · exact Nat.le_refl _
    · omega
theorem ll_sd_id {b : Nat} : ∀ d, ll_sd ln fp fc b (ll_sd ln fp fc b d) = ll_sd ln fp fc b d := by
  intro d
  induction d with
  | zero => rfl
  | succ d ih =>
    by_cases h : fc (b + d) < ln (fp (b + d)).toNatClampNeg
    · have e : ll_sd ln fp fc b (d + 1) = d + 1 := if_pos h
      rw [e, e]
    · have e : ll_sd ln fp fc b (d + 1) = ll_sd ln fp fc b d := if_neg h
      rw [e, ih]
theorem ll_sd_c {b d p c m : Nat} (h1 : fp (b + d) = nI p) (hp : p < 8) (h2 : fc (b + d) = nI c) (h3 : ln p = nI m) (hcm : c ≤ m) (hm : m ≤ 8) : (fc (b + d) < ln (fp (b + d)).toNatClampNeg) ↔ c < m := by
  rw [h1, h2, nI_clamp (by omega), h3, nI_ltI (by omega) (by omega)]
theorem ll_sd_t {b d p c m : Nat} (h1 : fp (b + d) = nI p) (hp : p < 8) (h2 : fc (b + d) = nI c) (h3 : ln p = nI m) (hcm : c < m) (hm : m ≤ 8) : ll_sd ln fp fc b (d + 1) = d + 1 :=
  if_pos ((ll_sd_c h1 hp h2 h3 (by omega) hm).mpr hcm)
theorem ll_sd_f {b d p c m : Nat} (h1 : fp (b + d) = nI p) (hp : p < 8) (h2 : fc (b + d) = nI c) (h3 : ln p = nI m) (hcm : c = m) (hm : m ≤ 8) : ll_sd ln fp fc b (d + 1) = ll_sd ln fp fc b d :=
  if_neg (fun h => by
    have := (ll_sd_c h1 hp h2 h3 (by omega) hm).mp h
    omega)
theorem ll_FRle {b d d' : Nat} (h : ll_FR ln fp fc b d) (hd' : d' ≤ d) : ll_FR ln fp fc b d' := fun i hi => h i (by omega)
theorem ll_top (t e : Nat) : nI t * 8 + nI (e + 1) - 1 = nI (t * 8 + e) := by
  rw [ll_8, nI_add, show t * 8 + (e + 1) = (t * 8 + e) + 1 from rfl, nI_pred]
theorem ll_cel (p c : Nat) : nI p * 8 + nI c = nI (p * 8 + c) := by rw [ll_8, nI_add]
theorem lx_isDone {post : Int32 → Prop} {t d : Nat} (ht : t < 4) (hdp : dp t = nI d) (h8 : d ≤ 8) (h0 : d = 0 → post 1) (h1 : d ≠ 0 → post 0) : wpX_isDone post (nl, nt, cl, se, vd, lk, op, ar, ln, en, so, lv, ed, pa, fp, fc, dp, hd, hc) (nI t) :=
  And.intro (vp_in_nI ht (by decide)) (pk_eq d 0 h0 h1 (by rw [nI_clamp (by omega)]; exact hdp))
theorem lx_top {post : Int32 → Prop} {t e : Nat} (ht : t < 4) (hdp : dp t = nI (e + 1)) (h : post (nI (t * 8 + e))) : wpX_topFrame post (nl, nt, cl, se, vd, lk, op, ar, ln, en, so, lv, ed, pa, fp, fc, dp, hd, hc) (nI t) :=
  And.intro (vp_in_nI ht (by decide)) (ek_v (P := post) (by rw [nI_clamp (by omega), hdp, ll_top]) h)
theorem lx_cell {post : Int32 → Prop} {t e p c : Nat} (ht : t < 4) (hdp : dp t = nI (e + 1)) (he : e < 8) (h1 : fp (t * 8 + e) = nI p) (h2 : fc (t * 8 + e) = nI c) (h : post (nI (p * 8 + c))) : wpX_currentCell post (nl, nt, cl, se, vd, lk, op, ar, ln, en, so, lv, ed, pa, fp, fc, dp, hd, hc) (nI t) := by
  unfold wpX_currentCell
  refine lx_top ht hdp ?_
  have hi : vp_in (nI (t * 8 + e)) 32 := vp_in_nI (by omega) (by decide)
  exact ⟨hi, hi, ek_v (P := post) (by rw [nI_clamp (by omega), h1, h2, ll_cel]) h⟩
theorem lx_settle2 {post : SX → Prop} {t : Nat} (ht : t < 4) : ∀ (n i d : Nat) (dp : Nat → Int32), i + d ≤ 8 → d < n → dp t = nI d → ll_FR ln fp fc (t * 8) d → post (nl, nt, cl, se, vd, lk, op, ar, ln, en, so, lv, ed, pa, fp, fc, upd dp t (nI (ll_sd ln fp fc (t * 8) d)), hd, hc) → wX_settle_2 post (nI t) nl nt cl se vd lk n (nI i) op ar ln en so lv ed pa fp fc dp hd hc := by
  intro n
  induction n with
  | zero => intro i d dp hi hn; omega
  | succ n ih =>
    intro i d dp hi hn hdp hF hp
    refine pk_le 8 i (fun h8 => ?_) (fun h8 => ?_)
    · have e : d = 0 := by omega
      subst e
      rw [show ll_sd ln fp fc (t * 8) 0 = 0 from rfl, ll_ui dp t _ hdp] at hp
      exact hp
    · cases d with
      | zero =>
        rw [show ll_sd ln fp fc (t * 8) 0 = 0 from rfl, ll_ui dp t _ hdp] at hp
        exact lx_isDone ht hdp (by omega) (fun _ => br_f (by decide) hp) (fun h => absurd rfl h)
      | succ d =>
        obtain ⟨p, c, m, e1, e2, e3, e4, e5, e6, e7⟩ := hF d (by omega)
        refine lx_isDone ht hdp (by omega) (fun h => absurd h (by omega)) (fun _ => br_t rfl ?_)
        refine lx_top ht hdp ?_
        have hi1 : vp_in (nI (t * 8 + d)) 32 := vp_in_nI (by omega) (by decide)
        have ht1 : vp_in (nI t) 4 := vp_in_nI ht (by decide)
        have c1 : (nI (t * 8 + d)).toNatClampNeg = t * 8 + d := nI_clamp (by omega)
        have c2 : (nI p).toNatClampNeg = p := nI_clamp (by omega)
        have c3 : (nI t).toNatClampNeg = t := nI_clamp (by omega)
        rw [c1, e1, e4, c2, e5, c3]
        refine ⟨hi1, hi1, vp_in_nI e3 (by decide), pk_le m c (fun h => ?_) (fun h => ?_)⟩
        · refine ⟨ht1, ht1, nm_r (e' := upd dp t (nI d)) (by rw [hdp, nI_pred]) (nm_r (nI_1 i) ?_)⟩
          refine ih (i + 1) d (upd dp t (nI d)) (by omega) (by omega) pk_us (ll_FRle hF (by omega)) ?_
          rw [ll_sd_f e1 e3 e4 e5 (by omega) e7] at hp
          rw [ll_uu]
          exact hp
        · rw [ll_sd_t e1 e3 e4 e5 (by omega) e7, ll_ui dp t _ hdp] at hp
          exact hp
theorem lx_settle {post : SX → Prop} {t d : Nat} (ht : t < 4) (h8 : d ≤ 8) (hdp : dp t = nI d) (hF : ll_FR ln fp fc (t * 8) d) (hp : post (nl, nt, cl, se, vd, lk, op, ar, ln, en, so, lv, ed, pa, fp, fc, upd dp t (nI (ll_sd ln fp fc (t * 8) d)), hd, hc)) : wpX_settle post (nl, nt, cl, se, vd, lk, op, ar, ln, en, so, lv, ed, pa, fp, fc, dp, hd, hc) (nI t) :=
  ⟨9, lx_settle2 ht 9 0 d dp (by omega) (by omega) hdp hF hp⟩
theorem lx_push {post : SX → Prop} {t d : Nat} {q : Int32} (ht : t < 4) (h8 : d < 8) (hdp : dp t = nI d) (hp : post (nl, nt, cl, se, vd, lk, op, ar, ln, en, so, lv, ed, pa, upd fp (t * 8 + d) q, upd fc (t * 8 + d) 0, upd dp t (nI (d + 1)), hd, hc)) : wpX_push post (nl, nt, cl, se, vd, lk, op, ar, ln, en, so, lv, ed, pa, fp, fc, dp, hd, hc) (nI t) q := by
  have ht1 : vp_in (nI t) 4 := vp_in_nI ht (by decide)
  have hi1 : vp_in (nI (t * 8 + d)) 32 := vp_in_nI (by omega) (by decide)
  have c1 : (nI (t * 8 + d)).toNatClampNeg = t * 8 + d := nI_clamp (by omega)
  have c3 : (nI t).toNatClampNeg = t := nI_clamp (by omega)
  refine And.intro ht1 (nm_r (e' := nI (t * 8 + d)) (by rw [c3, hdp, ll_cel]) ⟨hi1, nm_r (e' := upd fp (t * 8 + d) q) (by rw [c1]) ⟨hi1, nm_r (e' := upd fc (t * 8 + d) 0) (by rw [c1]) ⟨ht1, ht1, nm_r (e' := upd dp t (nI (d + 1))) (by rw [c3, hdp, nI_1]) hp⟩⟩⟩)
theorem lx_start {post : SX → Prop} {t p m : Nat} (ht : t < 4) (he : en t = nI p) (hp8 : p < 8) (hl : ln p = nI m) (hm : m ≤ 8) (hp : post (nl, nt, cl, se, vd, lk, op, ar, ln, en, so, lv, ed, pa, upd fp (t * 8) (nI p), upd fc (t * 8) 0, upd dp t (nI (if 0 < m then 1 else 0)), hd, hc)) : wpX_start post (nl, nt, cl, se, vd, lk, op, ar, ln, en, so, lv, ed, pa, fp, fc, dp, hd, hc) (nI t) := by
  have ht1 : vp_in (nI t) 4 := vp_in_nI ht (by decide)
  have c3 : (nI t).toNatClampNeg = t := nI_clamp (by omega)
  refine And.intro ht1 (nm_r (e' := upd dp t 0) (by rw [c3]) ⟨ht1, ?_⟩)
  rw [c3, he]
  refine lx_push (d := 0) ht (by omega) pk_us ?_
  have f1 : upd fp (t * 8 + 0) (nI p) (t * 8 + 0) = nI p := pk_us
  have f2 : upd fc (t * 8 + 0) 0 (t * 8 + 0) = nI 0 := pk_us
  refine lx_settle (d := 1) ht (by omega) pk_us (fun i hi => ?_) ?_
  · have e : i = 0 := by omega
    subst e
    exact ⟨p, 0, m, f1, by omega, hp8, f2, hl, by omega, hm⟩
  · rw [ll_uu, ll_uu]
    by_cases h : 0 < m
    · rw [ll_sd_t f1 hp8 f2 hl h hm]
      rw [if_pos h] at hp
      exact hp
    · rw [ll_sd_f f1 hp8 f2 hl (by omega) hm]
      rw [if_neg h] at hp
      exact hp
theorem lx_acq {post : SX → Prop} {a : Nat} {t : Int32} (ha : a < 8) (h : post (nl, nt, cl, se, vd, lk, op, ar, ln, en, so, lv, ed, pa, fp, fc, dp, upd hd a t, upd hc a (hc a + 1))) : wpX_acquire post (nl, nt, cl, se, vd, lk, op, ar, ln, en, so, lv, ed, pa, fp, fc, dp, hd, hc) t (nI a) := by
  have hi : vp_in (nI a) 8 := vp_in_nI ha (by decide)
  have c1 : (nI a).toNatClampNeg = a := nI_clamp (by omega)
  exact And.intro hi (nm_r (e' := upd hd a t) (by rw [c1]) ⟨hi, hi, nm_r (e' := upd hc a (hc a + 1)) (by rw [c1]) h⟩)
theorem lx_rel0 {post : SX → Prop} {a : Nat} {t : Int32} (ha : a < 8) (hn : ¬ hd a = t) (h : post (nl, nt, cl, se, vd, lk, op, ar, ln, en, so, lv, ed, pa, fp, fc, dp, hd, hc)) : wpX_release post (nl, nt, cl, se, vd, lk, op, ar, ln, en, so, lv, ed, pa, fp, fc, dp, hd, hc) t (nI a) := by
  have hi : vp_in (nI a) 8 := vp_in_nI ha (by decide)
  have c1 : (nI a).toNatClampNeg = a := nI_clamp (by omega)
  exact And.intro hi (br_f (by rw [c1]; exact hn) h)
theorem lx_rel1 {post : SX → Prop} {a : Nat} {t : Int32} (ha : a < 8) (hn : hd a = t) (h : post (nl, nt, cl, se, vd, lk, op, ar, ln, en, so, lv, ed, pa, fp, fc, dp, (if hc a - 1 = 0 then upd hd a (-1) else hd), upd hc a (hc a - 1))) : wpX_release post (nl, nt, cl, se, vd, lk, op, ar, ln, en, so, lv, ed, pa, fp, fc, dp, hd, hc) t (nI a) := by
  have hi : vp_in (nI a) 8 := vp_in_nI ha (by decide)
  have c1 : (nI a).toNatClampNeg = a := nI_clamp (by omega)
  refine And.intro hi (br_t (by rw [c1]; exact hn) ⟨hi, hi, nm_r (e' := upd hc a (hc a - 1)) (by rw [c1]) ⟨hi, ?_⟩⟩)
  rw [c1, pk_us]
  by_cases z : hc a - 1 = 0
  · rw [if_pos z] at h
    exact br_t z ⟨hi, nm_e h⟩
  · rw [if_neg z] at h
    exact br_f z h
end
end
section
/-! one instruction, both sides -/
/-- the edges that a thread t adds when it wants lock a -/
def ll_ae (h : Nat → Int32) (t : Int32) (a : Nat) : Nat → (Nat → Int32) → (Nat → Int32)
  | 0, e => e
  | k + 1, e => if h k = t then upd (ll_ae h t a k e) (k * 8 + a) 1 else ll_ae h t a k e
section
variable {nl nt cl se vd lk rc : Int32} {op ar ln en so lv ed pa re fp fc dp hd hc : Nat → Int32}
theorem lx_77 {post : SX → Prop} {t d : Nat} (ht : t < 4) (h8 : d ≤ 8) (hdp : dp t = nI d) (hF : ll_FR ln fp fc (t * 8) d) (hp : post (nl, nt, cl, se, vd, lk, op, ar, ln, en, so, lv, ed, pa, fp, fc, upd dp t (nI (ll_sd ln fp fc (t * 8) d)), hd, hc)) : wX_execute_77 post (nI t) nl nt cl se vd lk op ar ln en so lv ed pa fp fc dp hd hc := by
  unfold wX_execute_77
  exact lx_settle ht h8 hdp hF hp
theorem lx_exN {post : SX → Prop} {t e p c : Nat} (ht : t < 4) (he : e < 8) (hdp : dp t = nI (e + 1)) (h1 : fp (t * 8 + e) = nI p) (hp8 : p < 8) (h2 : fc (t * 8 + e) = nI c) (hc8 : c < 8) (ho : op (p * 8 + c) = 0) (hF : ll_FR ln fp (upd fc (t * 8 + e) (nI (c + 1))) (t * 8) (e + 1)) (hp : post (nl, nt, cl, se, vd, lk, op, ar, ln, en, so, lv, ed, pa, fp, upd fc (t * 8 + e) (nI (c + 1)), upd dp t (nI (ll_sd ln fp (upd fc (t * 8 + e) (nI (c + 1))) (t * 8) (e + 1))), hd, hc)) : wpX_execute post (nl, nt, cl, se, vd, lk, op, ar, ln, en, so, lv, ed, pa, fp, fc, dp, hd, hc) (nI t) := by
  unfold wpX_execute
  refine lx_cell ht hdp he h1 h2 ?_
  have hz : vp_in (nI (p * 8 + c)) 64 := vp_in_nI (by omega) (by decide)
  have hi : vp_in (nI (t * 8 + e)) 32 := vp_in_nI (by omega) (by decide)
  have c1 : (nI (p * 8 + c)).toNatClampNeg = p * 8 + c := nI_clamp (by omega)
  have c2 : (nI (t * 8 + e)).toNatClampNeg = t * 8 + e := nI_clamp (by omega)
  refine ⟨hz, nm_r (e' := 0) (by rw [c1, ho]) ⟨hz, nm_r (e' := ar (p * 8 + c)) (by rw [c1]) ?_⟩⟩
  refine lx_top ht hdp ?_
  refine ⟨hi, hi, nm_r (e' := upd fc (t * 8 + e) (nI (c + 1))) (by rw [c2, h2, nI_1]) ?_⟩
  exact br_f (by decide) (br_f (by decide) (br_f (by decide) (lx_77 ht (by omega) hdp hF hp)))
theorem lx_exA {post : SX → Prop} {t e p c a : Nat} (ht : t < 4) (he : e < 8) (hdp : dp t = nI (e + 1)) (h1 : fp (t * 8 + e) = nI p) (hp8 : p < 8) (h2 : fc (t * 8 + e) = nI c) (hc8 : c < 8) (ho : op (p * 8 + c) = 1) (ha : ar (p * 8 + c) = nI a) (ha8 : a < 8) (hF : ll_FR ln fp (upd fc (t * 8 + e) (nI (c + 1))) (t * 8) (e + 1)) (hp : post (nl, nt, cl, se, vd, lk, op, ar, ln, en, so, lv, ed, pa, fp, upd fc (t * 8 + e) (nI (c + 1)), upd dp t (nI (ll_sd ln fp (upd fc (t * 8 + e) (nI (c + 1))) (t * 8) (e + 1))), upd hd a (nI t), upd hc a (hc a + 1))) : wpX_execute post (nl, nt, cl, se, vd, lk, op, ar, ln, en, so, lv, ed, pa, fp, fc, dp, hd, hc) (nI t) := by
  unfold wpX_execute
  refine lx_cell ht hdp he h1 h2 ?_
  have hz : vp_in (nI (p * 8 + c)) 64 := vp_in_nI (by omega) (by decide)
  have hi : vp_in (nI (t * 8 + e)) 32 := vp_in_nI (by omega) (by decide)
  have c1 : (nI (p * 8 + c)).toNatClampNeg = p * 8 + c := nI_clamp (by omega)
  have c2 : (nI (t * 8 + e)).toNatClampNeg = t * 8 + e := nI_clamp (by omega)
  refine ⟨hz, nm_r (e' := 1) (by rw [c1, ho]) ⟨hz, nm_r (e' := nI a) (by rw [c1, ha]) ?_⟩⟩
  refine lx_top ht hdp ?_
  refine ⟨hi, hi, nm_r (e' := upd fc (t * 8 + e) (nI (c + 1))) (by rw [c2, h2, nI_1]) ?_⟩
  exact br_t rfl (lx_acq ha8 (lx_77 ht (by omega) hdp hF hp))
theorem lx_exR0 {post : SX → Prop} {t e p c a : Nat} (ht : t < 4) (he : e < 8) (hdp : dp t = nI (e + 1)) (h1 : fp (t * 8 + e) = nI p) (hp8 : p < 8) (h2 : fc (t * 8 + e) = nI c) (hc8 : c < 8) (ho : op (p * 8 + c) = 2) (ha : ar (p * 8 + c) = nI a) (ha8 : a < 8) (hn : ¬ hd a = nI t) (hF : ll_FR ln fp (upd fc (t * 8 + e) (nI (c + 1))) (t * 8) (e + 1)) (hp : post (nl, nt, cl, se, vd, lk, op, ar, ln, en, so, lv, ed, pa, fp, upd fc (t * 8 + e) (nI (c + 1)), upd dp t (nI (ll_sd ln fp (upd fc (t * 8 + e) (nI (c + 1))) (t * 8) (e + 1))), hd, hc)) : wpX_execute post (nl, nt, cl, se, vd, lk, op, ar, ln, en, so, lv, ed, pa, fp, fc, dp, hd, hc) (nI t) := by
  unfold wpX_execute
  refine lx_cell ht hdp he h1 h2 ?_
  have hz : vp_in (nI (p * 8 + c)) 64 := vp_in_nI (by omega) (by decide)
  have hi : vp_in (nI (t * 8 + e)) 32 := vp_in_nI (by omega) (by decide)
  have c1 : (nI (p * 8 + c)).toNatClampNeg = p * 8 + c := nI_clamp (by omega)
  have c2 : (nI (t * 8 + e)).toNatClampNeg = t * 8 + e := nI_clamp (by omega)
  refine ⟨hz, nm_r (e' := 2) (by rw [c1, ho]) ⟨hz, nm_r (e' := nI a) (by rw [c1, ha]) ?_⟩⟩
  refine lx_top ht hdp ?_
  refine ⟨hi, hi, nm_r (e' := upd fc (t * 8 + e) (nI (c + 1))) (by rw [c2, h2, nI_1]) ?_⟩
  exact br_f (by decide) (br_t rfl (lx_rel0 ha8 hn (lx_77 ht (by omega) hdp hF hp)))
theorem lx_exR1 {post : SX → Prop} {t e p c a : Nat} (ht : t < 4) (he : e < 8) (hdp : dp t = nI (e + 1)) (h1 : fp (t * 8 + e) = nI p) (hp8 : p < 8) (h2 : fc (t * 8 + e) = nI c) (hc8 : c < 8) (ho : op (p * 8 + c) = 2) (ha : ar (p * 8 + c) = nI a) (ha8 : a < 8) (hn : hd a = nI t) (hF : ll_FR ln fp (upd fc (t * 8 + e) (nI (c + 1))) (t * 8) (e + 1)) (hp : post (nl, nt, cl, se, vd, lk, op, ar, ln, en, so, lv, ed, pa, fp, upd fc (t * 8 + e) (nI (c + 1)), upd dp t (nI (ll_sd ln fp (upd fc (t * 8 + e) (nI (c + 1))) (t * 8) (e + 1))), (if hc a - 1 = 0 then upd hd a (-1) else hd), upd hc a (hc a - 1))) : wpX_execute post (nl, nt, cl, se, vd, lk, op, ar, ln, en, so, lv, ed, pa, fp, fc, dp, hd, hc) (nI t) := by
  unfold wpX_execute
  refine lx_cell ht hdp he h1 h2 ?_
  have hz : vp_in (nI (p * 8 + c)) 64 := vp_in_nI (by omega) (by decide)
  have hi : vp_in (nI (t * 8 + e)) 32 := vp_in_nI (by omega) (by decide)
  have c1 : (nI (p * 8 + c)).toNatClampNeg = p * 8 + c := nI_clamp (by omega)
  have c2 : (nI (t * 8 + e)).toNatClampNeg = t * 8 + e := nI_clamp (by omega)
  refine ⟨hz, nm_r (e' := 2) (by rw [c1, ho]) ⟨hz, nm_r (e' := nI a) (by rw [c1, ha]) ?_⟩⟩
  refine lx_top ht hdp ?_
  refine ⟨hi, hi, nm_r (e' := upd fc (t * 8 + e) (nI (c + 1))) (by rw [c2, h2, nI_1]) ?_⟩
  exact br_f (by decide) (br_t rfl (lx_rel1 ha8 hn (lx_77 ht (by omega) hdp hF hp)))
theorem lx_exC {post : SX → Prop} {t e p c a : Nat} (ht : t < 4) (he : e + 1 < 8) (hdp : dp t = nI (e + 1)) (h1 : fp (t * 8 + e) = nI p) (hp8 : p < 8) (h2 : fc (t * 8 + e) = nI c) (hc8 : c < 8) (ho : op (p * 8 + c) = 3) (ha : ar (p * 8 + c) = nI a) (hF : ll_FR ln (upd fp (t * 8 + (e + 1)) (nI a)) (upd (upd fc (t * 8 + e) (nI (c + 1))) (t * 8 + (e + 1)) 0) (t * 8) (e + 2)) (hp : post (nl, nt, cl, se, vd, lk, op, ar, ln, en, so, lv, ed, pa, upd fp (t * 8 + (e + 1)) (nI a), upd (upd fc (t * 8 + e) (nI (c + 1))) (t * 8 + (e + 1)) 0, upd dp t (nI (ll_sd ln (upd fp (t * 8 + (e + 1)) (nI a)) (upd (upd fc (t * 8 + e) (nI (c + 1))) (t * 8 + (e + 1)) 0) (t * 8) (e + 2))), hd, hc)) : wpX_execute post (nl, nt, cl, se, vd, lk, op, ar, ln, en, so, lv, ed, pa, fp, fc, dp, hd, hc) (nI t) := by
  unfold wpX_execute
  refine lx_cell ht hdp (by omega) h1 h2 ?_
  have hz : vp_in (nI (p * 8 + c)) 64 := vp_in_nI (by omega) (by decide)
  have hi : vp_in (nI (t * 8 + e)) 32 := vp_in_nI (by omega) (by decide)
  have c1 : (nI (p * 8 + c)).toNatClampNeg = p * 8 + c := nI_clamp (by omega)
  have c2 : (nI (t * 8 + e)).toNatClampNeg = t * 8 + e := nI_clamp (by omega)
  refine ⟨hz, nm_r (e' := 3) (by rw [c1, ho]) ⟨hz, nm_r (e' := nI a) (by rw [c1, ha]) ?_⟩⟩
  refine lx_top ht hdp ?_
  refine ⟨hi, hi, nm_r (e' := upd fc (t * 8 + e) (nI (c + 1))) (by rw [c2, h2, nI_1]) ?_⟩
  refine br_f (by decide) (br_f (by decide) (br_t rfl (lx_push ht he hdp (lx_77 (d := e + 2) ht (by omega) pk_us hF ?_))))
  rw [ll_uu]
  exact hp
theorem lx_ae38 {post : SX → Prop} {t : Int32} {L a : Nat} {e0 : Nat → Int32} (hL : L ≤ 8) (ha : a < 8) (hp : post (nI L, nt, cl, se, vd, lk, op, ar, ln, en, so, lv, ll_ae hd t a L e0, pa, fp, fc, dp, hd, hc)) : ∀ (r n k : Nat), k + r = L → r < n → wX_addEdges_38 post t (nI a) (nI L) nt cl se vd lk n (nI k) op ar ln en so lv (ll_ae hd t a k e0) pa fp fc dp hd hc := by
  intro r
  induction r with
  | zero =>
    intro n k hk hn
    obtain ⟨n, rfl⟩ : ∃ m, n = m + 1 := ⟨n - 1, by omega⟩
    have e : k = L := by omega
    subst e
    exact pk_le k k (fun _ => hp) (fun h => absurd h (by omega))
  | succ r ih =>
    intro n k hk hn
    obtain ⟨n, rfl⟩ : ∃ m, n = m + 1 := ⟨n - 1, by omega⟩
    have c1 : (nI k).toNatClampNeg = k := nI_clamp (by omega)
    have q := ih n (k + 1) (by omega) (by omega)
    refine pk_le L k (fun h => absurd h (by omega)) (fun _ => And.intro (vp_in_nI (by omega) (by decide)) ?_)
    by_cases z : hd k = t
    · have e : ll_ae hd t a (k + 1) e0 = upd (ll_ae hd t a k e0) (k * 8 + a) 1 := if_pos z
      rw [e] at q
      exact br_t (by rw [c1]; exact z) ⟨pk_in (k * 8 + a) 64 (by omega) (ll_cel k a), nm_r (e' := upd (ll_ae hd t a k e0) (k * 8 + a) 1) (by rw [ll_cel, nI_clamp (by omega), ll_b1]) (nm_r (nI_1 k) q)⟩
    · have e : ll_ae hd t a (k + 1) e0 = ll_ae hd t a k e0 := if_neg z
      rw [e] at q
      exact br_f (by rw [c1]; exact z) (nm_r (nI_1 k) q)
theorem lx_ae0 {post : SX → Prop} {t e p c : Nat} (ht : t < 4) (he : e < 8) (hdp : dp t = nI (e + 1)) (h1 : fp (t * 8 + e) = nI p) (hp8 : p < 8) (h2 : fc (t * 8 + e) = nI c) (hc8 : c < 8) (ho : ¬ op (p * 8 + c) = 1) (hp : post (nl, nt, cl, se, vd, lk, op, ar, ln, en, so, lv, ed, pa, fp, fc, dp, hd, hc)) : wpX_addEdges post (nl, nt, cl, se, vd, lk, op, ar, ln, en, so, lv, ed, pa, fp, fc, dp, hd, hc) (nI t) := by
  unfold wpX_addEdges
  refine lx_cell ht hdp he h1 h2 ?_
  have hz : vp_in (nI (p * 8 + c)) 64 := vp_in_nI (by omega) (by decide)
  have c1 : (nI (p * 8 + c)).toNatClampNeg = p * 8 + c := nI_clamp (by omega)
  exact ⟨hz, br_f (by rw [c1]; exact ho) hp⟩
theorem lx_ae1 {post : SX → Prop} {t e p c a : Nat} (ht : t < 4) (he : e < 8) (hdp : dp t = nI (e + 1)) (h1 : fp (t * 8 + e) = nI p) (hp8 : p < 8) (h2 : fc (t * 8 + e) = nI c) (hc8 : c < 8) (ho : op (p * 8 + c) = 1) (ha : ar (p * 8 + c) = nI a) (ha8 : a < 8) (hn : hd a = nI t) (hp : post (nl, nt, cl, se, vd, lk, op, ar, ln, en, so, lv, ed, pa, fp, fc, dp, hd, hc)) : wpX_addEdges post (nl, nt, cl, se, vd, lk, op, ar, ln, en, so, lv, ed, pa, fp, fc, dp, hd, hc) (nI t) := by
  unfold wpX_addEdges
  refine lx_cell ht hdp he h1 h2 ?_
  have hz : vp_in (nI (p * 8 + c)) 64 := vp_in_nI (by omega) (by decide)
  have c1 : (nI (p * 8 + c)).toNatClampNeg = p * 8 + c := nI_clamp (by omega)
  have c2 : (nI a).toNatClampNeg = a := nI_clamp (by omega)
  exact ⟨hz, br_t (by rw [c1]; exact ho) ⟨hz, nm_r (e' := nI a) (by rw [c1]; exact ha) ⟨vp_in_nI ha8 (by decide), br_t (by rw [c2]; exact hn) hp⟩⟩⟩
theorem lx_ae2 {post : SX → Prop} {L t e p c a : Nat} (hL : L ≤ 8) (ht : t < 4) (he : e < 8) (hdp : dp t = nI (e + 1)) (h1 : fp (t * 8 + e) = nI p) (hp8 : p < 8) (h2 : fc (t * 8 + e) = nI c) (hc8 : c < 8) (ho : op (p * 8 + c) = 1) (ha : ar (p * 8 + c) = nI a) (ha8 : a < 8) (hn : ¬ hd a = nI t) (hp : post (nI L, nt, cl, se, vd, lk, op, ar, ln, en, so, lv, ll_ae hd (nI t) a L ed, pa, fp, fc, dp, hd, hc)) : wpX_addEdges post (nI L, nt, cl, se, vd, lk, op, ar, ln, en, so, lv, ed, pa, fp, fc, dp, hd, hc) (nI t) := by
  unfold wpX_addEdges
  refine lx_cell ht hdp he h1 h2 ?_
  have hz : vp_in (nI (p * 8 + c)) 64 := vp_in_nI (by omega) (by decide)
  have c1 : (nI (p * 8 + c)).toNatClampNeg = p * 8 + c := nI_clamp (by omega)
  have c2 : (nI a).toNatClampNeg = a := nI_clamp (by omega)
  exact ⟨hz, br_t (by rw [c1]; exact ho) ⟨hz, nm_r (e' := nI a) (by rw [c1]; exact ha) ⟨vp_in_nI ha8 (by decide), br_f (by rw [c2]; exact hn) ⟨L + 1, lx_ae38 (e0 := ed) hL ha8 hp L (L + 1) 0 (by omega) (by omega)⟩⟩⟩⟩
theorem ly_settle2 {post : SY → Prop} {t : Nat} (ht : t < 4) : ∀ (n k d : Nat) (dp : Nat → Int32), k ≤ 9 → 9 - k < n → d ≤ 8 → (ll_sd ln fp fc (t * 8) d = d ∨ d + k ≤ 8) → dp t = nI d → ll_FR ln fp fc (t * 8) d → post (nl, nt, cl, se, vd, rc, op, ar, ln, en, so, ed, re, lv, hd, hc, fp, fc, upd dp t (nI (ll_sd ln fp fc (t * 8) d))) → wY_settle_2 post (nI t) nl nt cl se vd rc n (nI k) op ar ln en so ed re lv hd hc fp fc dp := by
  intro n
  induction n with
  | zero => intro k d dp hk hn; omega
  | succ n ih =>
    intro k d dp hk hn h8 hs hdp hF hp
    have ht1 : vp_in (nI t) 4 := vp_in_nI ht (by decide)
    have c3 : (nI t).toNatClampNeg = t := nI_clamp (by omega)
    refine pk_le 9 k (fun h9 => ?_) (fun h9 => ?_)
    · have e : ll_sd ln fp fc (t * 8) d = d := by omega
      rw [e, ll_ui dp t _ hdp] at hp
      exact hp
    · refine And.intro ht1 (nm_r (e' := nI d) (by rw [c3]; exact hdp) ?_)
      cases d with
      | zero =>
        exact pk_le 0 0 (fun _ => nm_r (nI_1 k) (ih (k + 1) 0 dp (by omega) (by omega) (by omega) (Or.inl rfl) hdp hF hp)) (fun h => absurd h (by omega))
      | succ d =>
        obtain ⟨p, c, m, e1, e2, e3, e4, e5, e6, e7⟩ := hF d (by omega)
        have hi1 : vp_in (nI (t * 8 + d)) 32 := vp_in_nI (by omega) (by decide)
        have c1 : (nI (t * 8 + d)).toNatClampNeg = t * 8 + d := nI_clamp (by omega)
        have c2 : (nI p).toNatClampNeg = p := nI_clamp (by omega)
        refine pk_le (d + 1) 0 (fun h => absurd h (by omega)) (fun _ => ?_)
        rw [ll_top, c1, e1, e4, c2, e5, c3]
        refine ⟨hi1, hi1, vp_in_nI e3 (by decide), pk_lt c m (fun h => ?_) (fun h => ?_)⟩
        · exact nm_r (nI_1 k) (ih (k + 1) (d + 1) dp (by omega) (by omega) h8 (Or.inl (ll_sd_t e1 e3 e4 e5 h e7)) hdp hF hp)
        · have e := ll_sd_f e1 e3 e4 e5 (by omega) e7
          refine ⟨ht1, nm_r (e' := upd dp t (nI d)) (by rw [nI_pred]) (nm_r (nI_1 k) (ih (k + 1) d (upd dp t (nI d)) (by omega) (by omega) (by omega) ?_ pk_us (ll_FRle hF (by omega)) ?_))⟩
          · have := ll_sd_le (ln := ln) (fp := fp) (fc := fc) (b := t * 8) d
            omega
          · rw [e] at hp
            rw [ll_uu]
            exact hp
theorem ly_settle {post : SY → Prop} {t d : Nat} (ht : t < 4) (h8 : d ≤ 8) (hdp : dp t = nI d) (hF : ll_FR ln fp fc (t * 8) d) (hp : post (nl, nt, cl, se, vd, rc, op, ar, ln, en, so, ed, re, lv, hd, hc, fp, fc, upd dp t (nI (ll_sd ln fp fc (t * 8) d)))) : wpY_settle post (nl, nt, cl, se, vd, rc, op, ar, ln, en, so, ed, re, lv, hd, hc, fp, fc, dp) (nI t) :=
  ⟨10, ly_settle2 ht 10 0 d dp (by omega) (by omega) h8 (Or.inr (by omega)) hdp hF hp⟩
theorem ly_start {post : SY → Prop} {t p m : Nat} (ht : t < 4) (he : en t = nI p) (hp8 : p < 8) (hl : ln p = nI m) (hm : m ≤ 8) (hp : post (nl, nt, cl, se, vd, rc, op, ar, ln, en, so, ed, re, lv, hd, hc, upd fp (t * 8) (nI p), upd fc (t * 8) 0, upd dp t (nI (if 0 < m then 1 else 0)))) : wpY_startThread post (nl, nt, cl, se, vd, rc, op, ar, ln, en, so, ed, re, lv, hd, hc, fp, fc, dp) (nI t) := by
  have ht1 : vp_in (nI t) 4 := vp_in_nI ht (by decide)
  have c3 : (nI t).toNatClampNeg = t := nI_clamp (by omega)
  have hi : vp_in (nI t * 8) 32 := pk_in (t * 8) 32 (by omega) (ll_8 t)
  have c4 : (nI t * 8).toNatClampNeg = t * 8 := by rw [ll_8]; exact nI_clamp (by omega)
  refine And.intro ht1 (nm_r (e' := upd dp t (nI 1)) (by rw [c3]; rfl) ⟨ht1, hi, nm_r (e' := upd fp (t * 8) (nI p)) (by rw [c4, c3, he]) ⟨hi, nm_r (e' := upd fc (t * 8) 0) (by rw [c4]) ?_⟩⟩)
  have f1 : upd fp (t * 8) (nI p) (t * 8 + 0) = nI p := pk_us
  have f2 : upd fc (t * 8) 0 (t * 8 + 0) = nI 0 := pk_us
  refine ly_settle (d := 1) ht (by omega) pk_us (fun i hi => ?_) ?_
  · have e : i = 0 := by omega
    subst e
    exact ⟨p, 0, m, f1, by omega, hp8, f2, hl, by omega, hm⟩
  · rw [ll_uu]
    by_cases h : 0 < m
    · rw [ll_sd_t f1 hp8 f2 hl h hm]
      rw [if_pos h] at hp
      exact hp
    · rw [ll_sd_f f1 hp8 f2 hl (by omega) hm]
      rw [if_neg h] at hp
      exact hp
theorem ly_326 {post : SY → Prop} {t d : Nat} (ht : t < 4) (h8 : d ≤ 8) (hdp : dp t = nI d) (hF : ll_FR ln fp fc (t * 8) d) (hp : post (nl, nt, cl, se, vd, rc, op, ar, ln, en, so, ed, re, lv, hd, hc, fp, fc, upd dp t (nI (ll_sd ln fp fc (t * 8) d)))) : wY_exec_326 post (nI t) nl nt cl se vd rc op ar ln en so ed re lv hd hc fp fc dp := by
  unfold wY_exec_326
  exact ly_settle ht h8 hdp hF hp
theorem ly_207 {post : SY → Prop} {t d a : Nat} (ht : t < 4) (h8 : d ≤ 8) (ha8 : a < 8) (hdp : dp t = nI d) (hF : ll_FR ln fp fc (t * 8) d) (hp : post (nl, nt, cl, se, vd, rc, op, ar, ln, en, so, ed, re, lv, upd hd a (nI t), upd hc a 1, fp, fc, upd dp t (nI (ll_sd ln fp fc (t * 8) d)))) : wY_exec_207 post (nI t) (nI a) nl nt cl se vd rc op ar ln en so ed re lv hd hc fp fc dp := by
  have hi : vp_in (nI a) 8 := vp_in_nI ha8 (by decide)
  have c1 : (nI a).toNatClampNeg = a := nI_clamp (by omega)
  exact And.intro hi (nm_r (e' := upd hd a (nI t)) (by rw [c1]) ⟨hi, nm_r (e' := upd hc a 1) (by rw [c1]) (ly_326 ht h8 hdp hF hp)⟩)
theorem ly_ae {post : SY → Prop} {t a : Nat} {e0 : Nat → Int32} (ha : a < 8) (hcp : ∀ k, k < 8 → hd k = nI t → ¬ hc k ≤ 0) (hp : wY_exec_207 post (nI t) (nI a) nl nt cl se vd rc op ar ln en so (ll_ae hd (nI t) a 8 e0) re lv hd hc fp fc dp) : ∀ (r n k : Nat), k + r = 8 → r < n → wY_exec_159 post (nI t) (nI a) nl nt cl se vd rc n (nI k) op ar ln en so (ll_ae hd (nI t) a k e0) re lv hd hc fp fc dp := by
  intro r
  induction r with
  | zero =>
    intro n k hk hn
    obtain ⟨n, rfl⟩ : ∃ m, n = m + 1 := ⟨n - 1, by omega⟩
    have e : k = 8 := by omega
    subst e
    exact pk_le 8 8 (fun _ => hp) (fun h => absurd h (by omega))
  | succ r ih =>
    intro n k hk hn
    obtain ⟨n, rfl⟩ : ∃ m, n = m + 1 := ⟨n - 1, by omega⟩
    have c1 : (nI k).toNatClampNeg = k := nI_clamp (by omega)
    have q := ih n (k + 1) (by omega) (by omega)
    have hi : vp_in (nI k) 8 := vp_in_nI (by omega) (by decide)
    refine pk_le 8 k (fun h => absurd h (by omega)) (fun _ => And.intro hi ?_)
    by_cases z : hd k = nI t
    · have e : ll_ae hd (nI t) a (k + 1) e0 = upd (ll_ae hd (nI t) a k e0) (k * 8 + a) 1 := if_pos z
      rw [e] at q
      exact br_t (by rw [c1]; exact z) ⟨hi, br_f (by rw [c1]; exact hcp k (by omega) z) ⟨pk_in (k * 8 + a) 64 (by omega) (ll_cel k a), nm_r (e' := upd (ll_ae hd (nI t) a k e0) (k * 8 + a) 1) (by rw [ll_cel, nI_clamp (by omega), ll_b1]) (nm_r (nI_1 k) q)⟩⟩
    · have e : ll_ae hd (nI t) a (k + 1) e0 = ll_ae hd (nI t) a k e0 := if_neg z
      rw [e] at q
      exact br_f (by rw [c1]; exact z) (nm_r (nI_1 k) q)
theorem ly_exN {post : SY → Prop} {t e p c m : Nat} (ht : t < 4) (he : e < 8) (hdp : dp t = nI (e + 1)) (h1 : fp (t * 8 + e) = nI p) (hp8 : p < 8) (h2 : fc (t * 8 + e) = nI c) (hl : ln p = nI m) (hcm : c < m) (hm : m ≤ 8) (ho : op (p * 8 + c) = 0) (hF : ll_FR ln fp (upd fc (t * 8 + e) (nI (c + 1))) (t * 8) (e + 1)) (hp : post (nl, nt, cl, se, vd, rc, op, ar, ln, en, so, ed, re, lv, hd, hc, fp, upd fc (t * 8 + e) (nI (c + 1)), upd dp t (nI (ll_sd ln fp (upd fc (t * 8 + e) (nI (c + 1))) (t * 8) (e + 1))))) : wpY_exec post (nl, nt, cl, se, vd, rc, op, ar, ln, en, so, ed, re, lv, hd, hc, fp, fc, dp) (nI t) := by
  have ht1 : vp_in (nI t) 4 := vp_in_nI ht (by decide)
  have hz : vp_in (nI (p * 8 + c)) 64 := vp_in_nI (by omega) (by decide)
  have hi : vp_in (nI (t * 8 + e)) 32 := vp_in_nI (by omega) (by decide)
  have c1 : (nI (p * 8 + c)).toNatClampNeg = p * 8 + c := nI_clamp (by omega)
  have c2 : (nI (t * 8 + e)).toNatClampNeg = t * 8 + e := nI_clamp (by omega)
  have c3 : (nI t).toNatClampNeg = t := nI_clamp (by omega)
  have c4 : (nI p).toNatClampNeg = p := nI_clamp (by omega)
  have ce := ll_cel p c
  refine And.intro ht1 (nm_r (e' := nI (e + 1)) (by rw [c3, hdp]) (pk_le (e + 1) 0 (fun h => absurd h (by omega)) (fun _ => pk_le (e + 1) 8 (fun _ => ?_) (fun h => absurd h (by omega)))))
  refine nm_r (e' := nI (t * 8 + e)) (ll_top t e) ⟨hi, nm_r (e' := nI p) (by rw [c2, h1]) ⟨hi, nm_r (e' := nI c) (by rw [c2, h2]) ?_⟩⟩
  refine br_f (nI_pos (by omega)) (pk_lt 7 p (fun h => absurd h (by omega)) (fun _ => br_f (nI_pos (by omega)) ⟨vp_in_nI hp8 (by decide), ?_⟩))
  rw [c4, hl, ce, c1]
  refine pk_lt c m (fun _ => ?_) (fun h => absurd h (by omega))
  refine ⟨hz, nm_r (e' := 0) ho ⟨hz, nm_r (e' := ar (p * 8 + c)) rfl ⟨hi, nm_r (e' := upd fc (t * 8 + e) (nI (c + 1))) (by rw [c2, nI_1]) ?_⟩⟩⟩
  exact br_f (by decide) (br_f (by decide) (br_f (by decide) (ly_326 ht (by omega) hdp hF hp)))
theorem ly_exA1 {post : SY → Prop} {t e p c m a : Nat} (ht : t < 4) (he : e < 8) (hdp : dp t = nI (e + 1)) (h1 : fp (t * 8 + e) = nI p) (hp8 : p < 8) (h2 : fc (t * 8 + e) = nI c) (hl : ln p = nI m) (hcm : c < m) (hm : m ≤ 8) (ho : op (p * 8 + c) = 1) (ha : ar (p * 8 + c) = nI a) (ha8 : a < 8) (hn : hd a = nI t) (hF : ll_FR ln fp (upd fc (t * 8 + e) (nI (c + 1))) (t * 8) (e + 1)) (hp : post (nl, nt, cl, se, vd, rc, op, ar, ln, en, so, ed, re, lv, hd, upd hc a (hc a + 1), fp, upd fc (t * 8 + e) (nI (c + 1)), upd dp t (nI (ll_sd ln fp (upd fc (t * 8 + e) (nI (c + 1))) (t * 8) (e + 1))))) : wpY_exec post (nl, nt, cl, se, vd, rc, op, ar, ln, en, so, ed, re, lv, hd, hc, fp, fc, dp) (nI t) := by
  have ht1 : vp_in (nI t) 4 := vp_in_nI ht (by decide)
  have hz : vp_in (nI (p * 8 + c)) 64 := vp_in_nI (by omega) (by decide)
  have hi : vp_in (nI (t * 8 + e)) 32 := vp_in_nI (by omega) (by decide)
  have c1 : (nI (p * 8 + c)).toNatClampNeg = p * 8 + c := nI_clamp (by omega)
  have c2 : (nI (t * 8 + e)).toNatClampNeg = t * 8 + e := nI_clamp (by omega)
  have c3 : (nI t).toNatClampNeg = t := nI_clamp (by omega)
  have c4 : (nI p).toNatClampNeg = p := nI_clamp (by omega)
  have ce := ll_cel p c
  refine And.intro ht1 (nm_r (e' := nI (e + 1)) (by rw [c3, hdp]) (pk_le (e + 1) 0 (fun h => absurd h (by omega)) (fun _ => pk_le (e + 1) 8 (fun _ => ?_) (fun h => absurd h (by omega)))))
  refine nm_r (e' := nI (t * 8 + e)) (ll_top t e) ⟨hi, nm_r (e' := nI p) (by rw [c2, h1]) ⟨hi, nm_r (e' := nI c) (by rw [c2, h2]) ?_⟩⟩
  refine br_f (nI_pos (by omega)) (pk_lt 7 p (fun h => absurd h (by omega)) (fun _ => br_f (nI_pos (by omega)) ⟨vp_in_nI hp8 (by decide), ?_⟩))
  rw [c4, hl, ce, c1]
  refine pk_lt c m (fun _ => ?_) (fun h => absurd h (by omega))
  refine ⟨hz, nm_r (e' := 1) ho ⟨hz, nm_r (e' := nI a) ha ⟨hi, nm_r (e' := upd fc (t * 8 + e) (nI (c + 1))) (by rw [c2, nI_1]) ?_⟩⟩⟩
  have hia : vp_in (nI a) 8 := vp_in_nI ha8 (by decide)
  have ca : (nI a).toNatClampNeg = a := nI_clamp (by omega)
  exact br_t rfl ⟨hia, br_t (by rw [ca]; exact hn) ⟨hia, hia, nm_r (e' := upd hc a (hc a + 1)) (by rw [ca]) (ly_326 ht (by omega) hdp hF hp)⟩⟩
theorem ly_exA0 {post : SY → Prop} {t e p c m a : Nat} (ht : t < 4) (he : e < 8) (hdp : dp t = nI (e + 1)) (h1 : fp (t * 8 + e) = nI p) (hp8 : p < 8) (h2 : fc (t * 8 + e) = nI c) (hl : ln p = nI m) (hcm : c < m) (hm : m ≤ 8) (ho : op (p * 8 + c) = 1) (ha : ar (p * 8 + c) = nI a) (ha8 : a < 8) (hn : ¬ hd a = nI t) (hF : ll_FR ln fp (upd fc (t * 8 + e) (nI (c + 1))) (t * 8) (e + 1)) (hp : post (nl, nt, cl, se, vd, 0, op, ar, ln, en, so, ed, re, lv, upd hd a (nI t), upd hc a 1, fp, upd fc (t * 8 + e) (nI (c + 1)), upd dp t (nI (ll_sd ln fp (upd fc (t * 8 + e) (nI (c + 1))) (t * 8) (e + 1))))) : wpY_exec post (nl, nt, cl, se, vd, 0, op, ar, ln, en, so, ed, re, lv, hd, hc, fp, fc, dp) (nI t) := by
  have ht1 : vp_in (nI t) 4 := vp_in_nI ht (by decide)
  have hz : vp_in (nI (p * 8 + c)) 64 := vp_in_nI (by omega) (by decide)
  have hi : vp_in (nI (t * 8 + e)) 32 := vp_in_nI (by omega) (by decide)
  have c1 : (nI (p * 8 + c)).toNatClampNeg = p * 8 + c := nI_clamp (by omega)
  have c2 : (nI (t * 8 + e)).toNatClampNeg = t * 8 + e := nI_clamp (by omega)
  have c3 : (nI t).toNatClampNeg = t := nI_clamp (by omega)
  have c4 : (nI p).toNatClampNeg = p := nI_clamp (by omega)
  have ce := ll_cel p c
  refine And.intro ht1 (nm_r (e' := nI (e + 1)) (by rw [c3, hdp]) (pk_le (e + 1) 0 (fun h => absurd h (by omega)) (fun _ => pk_le (e + 1) 8 (fun _ => ?_) (fun h => absurd h (by omega)))))
  refine nm_r (e' := nI (t * 8 + e)) (ll_top t e) ⟨hi, nm_r (e' := nI p) (by rw [c2, h1]) ⟨hi, nm_r (e' := nI c) (by rw [c2, h2]) ?_⟩⟩
  refine br_f (nI_pos (by omega)) (pk_lt 7 p (fun h => absurd h (by omega)) (fun _ => br_f (nI_pos (by omega)) ⟨vp_in_nI hp8 (by decide), ?_⟩))
  rw [c4, hl, ce, c1]
  refine pk_lt c m (fun _ => ?_) (fun h => absurd h (by omega))
  refine ⟨hz, nm_r (e' := 1) ho ⟨hz, nm_r (e' := nI a) ha ⟨hi, nm_r (e' := upd fc (t * 8 + e) (nI (c + 1))) (by rw [c2, nI_1]) ?_⟩⟩⟩
  have hia : vp_in (nI a) 8 := vp_in_nI ha8 (by decide)
  have ca : (nI a).toNatClampNeg = a := nI_clamp (by omega)
  exact br_t rfl ⟨hia, br_f (by rw [ca]; exact hn) (br_t rfl (ly_207 ht (by omega) ha8 hdp hF hp))⟩
theorem ly_exA2 {post : SY → Prop} {t e p c m a : Nat} (ht : t < 4) (he : e < 8) (hdp : dp t = nI (e + 1)) (h1 : fp (t * 8 + e) = nI p) (hp8 : p < 8) (h2 : fc (t * 8 + e) = nI c) (hl : ln p = nI m) (hcm : c < m) (hm : m ≤ 8) (ho : op (p * 8 + c) = 1) (ha : ar (p * 8 + c) = nI a) (ha8 : a < 8) (hn : ¬ hd a = nI t) (hcp : ∀ k, k < 8 → hd k = nI t → ¬ hc k ≤ 0) (hF : ll_FR ln fp (upd fc (t * 8 + e) (nI (c + 1))) (t * 8) (e + 1)) (hp : post (nl, nt, cl, se, vd, 1, op, ar, ln, en, so, ll_ae hd (nI t) a 8 ed, re, lv, upd hd a (nI t), upd hc a 1, fp, upd fc (t * 8 + e) (nI (c + 1)), upd dp t (nI (ll_sd ln fp (upd fc (t * 8 + e) (nI (c + 1))) (t * 8) (e + 1))))) : wpY_exec post (nl, nt, cl, se, vd, 1, op, ar, ln, en, so, ed, re, lv, hd, hc, fp, fc, dp) (nI t) := by
  have ht1 : vp_in (nI t) 4 := vp_in_nI ht (by decide)
  have hz : vp_in (nI (p * 8 + c)) 64 := vp_in_nI (by omega) (by decide)
  have hi : vp_in (nI (t * 8 + e)) 32 := vp_in_nI (by omega) (by decide)
  have c1 : (nI (p * 8 + c)).toNatClampNeg = p * 8 + c := nI_clamp (by omega)
  have c2 : (nI (t * 8 + e)).toNatClampNeg = t * 8 + e := nI_clamp (by omega)
  have c3 : (nI t).toNatClampNeg = t := nI_clamp (by omega)
  have c4 : (nI p).toNatClampNeg = p := nI_clamp (by omega)
  have ce := ll_cel p c
  refine And.intro ht1 (nm_r (e' := nI (e + 1)) (by rw [c3, hdp]) (pk_le (e + 1) 0 (fun h => absurd h (by omega)) (fun _ => pk_le (e + 1) 8 (fun _ => ?_) (fun h => absurd h (by omega)))))
  refine nm_r (e' := nI (t * 8 + e)) (ll_top t e) ⟨hi, nm_r (e' := nI p) (by rw [c2, h1]) ⟨hi, nm_r (e' := nI c) (by rw [c2, h2]) ?_⟩⟩
  refine br_f (nI_pos (by omega)) (pk_lt 7 p (fun h => absurd h (by omega)) (fun _ => br_f (nI_pos (by omega)) ⟨vp_in_nI hp8 (by decide), ?_⟩))
  rw [c4, hl, ce, c1]
  refine pk_lt c m (fun _ => ?_) (fun h => absurd h (by omega))
  refine ⟨hz, nm_r (e' := 1) ho ⟨hz, nm_r (e' := nI a) ha ⟨hi, nm_r (e' := upd fc (t * 8 + e) (nI (c + 1))) (by rw [c2, nI_1]) ?_⟩⟩⟩
  have hia : vp_in (nI a) 8 := vp_in_nI ha8 (by decide)
  have ca : (nI a).toNatClampNeg = a := nI_clamp (by omega)
  exact br_t rfl ⟨hia, br_f (by rw [ca]; exact hn) (br_f (by decide) ⟨9, ly_ae (e0 := ed) ha8 hcp (ly_207 ht (by omega) ha8 hdp hF hp) 8 9 0 (by omega) (by omega)⟩)⟩
theorem ly_exR0 {post : SY → Prop} {t e p c m a : Nat} (ht : t < 4) (he : e < 8) (hdp : dp t = nI (e + 1)) (h1 : fp (t * 8 + e) = nI p) (hp8 : p < 8) (h2 : fc (t * 8 + e) = nI c) (hl : ln p = nI m) (hcm : c < m) (hm : m ≤ 8) (ho : op (p * 8 + c) = 2) (ha : ar (p * 8 + c) = nI a) (ha8 : a < 8) (hn : ¬ hd a = nI t) (hF : ll_FR ln fp (upd fc (t * 8 + e) (nI (c + 1))) (t * 8) (e + 1)) (hp : post (nl, nt, cl, se, vd, rc, op, ar, ln, en, so, ed, re, lv, hd, hc, fp, upd fc (t * 8 + e) (nI (c + 1)), upd dp t (nI (ll_sd ln fp (upd fc (t * 8 + e) (nI (c + 1))) (t * 8) (e + 1))))) : wpY_exec post (nl, nt, cl, se, vd, rc, op, ar, ln, en, so, ed, re, lv, hd, hc, fp, fc, dp) (nI t) := by
  have ht1 : vp_in (nI t) 4 := vp_in_nI ht (by decide)
  have hz : vp_in (nI (p * 8 + c)) 64 := vp_in_nI (by omega) (by decide)
  have hi : vp_in (nI (t * 8 + e)) 32 := vp_in_nI (by omega) (by decide)
  have c1 : (nI (p * 8 + c)).toNatClampNeg = p * 8 + c := nI_clamp (by omega)
  have c2 : (nI (t * 8 + e)).toNatClampNeg = t * 8 + e := nI_clamp (by omega)
  have c3 : (nI t).toNatClampNeg = t := nI_clamp (by omega)
  have c4 : (nI p).toNatClampNeg = p := nI_clamp (by omega)
  have ce := ll_cel p c
  refine And.intro ht1 (nm_r (e' := nI (e + 1)) (by rw [c3, hdp]) (pk_le (e + 1) 0 (fun h => absurd h (by omega)) (fun _ => pk_le (e + 1) 8 (fun _ => ?_) (fun h => absurd h (by omega)))))
  refine nm_r (e' := nI (t * 8 + e)) (ll_top t e) ⟨hi, nm_r (e' := nI p) (by rw [c2, h1]) ⟨hi, nm_r (e' := nI c) (by rw [c2, h2]) ?_⟩⟩
  refine br_f (nI_pos (by omega)) (pk_lt 7 p (fun h => absurd h (by omega)) (fun _ => br_f (nI_pos (by omega)) ⟨vp_in_nI hp8 (by decide), ?_⟩))
  rw [c4, hl, ce, c1]
  refine pk_lt c m (fun _ => ?_) (fun h => absurd h (by omega))
  refine ⟨hz, nm_r (e' := 2) ho ⟨hz, nm_r (e' := nI a) ha ⟨hi, nm_r (e' := upd fc (t * 8 + e) (nI (c + 1))) (by rw [c2, nI_1]) ?_⟩⟩⟩
  have hia : vp_in (nI a) 8 := vp_in_nI ha8 (by decide)
  have ca : (nI a).toNatClampNeg = a := nI_clamp (by omega)
  exact br_f (by decide) (br_t rfl ⟨hia, br_f (by rw [ca]; exact hn) (ly_326 ht (by omega) hdp hF hp)⟩)
theorem ly_exR1 {post : SY → Prop} {t e p c m a : Nat} (ht : t < 4) (he : e < 8) (hdp : dp t = nI (e + 1)) (h1 : fp (t * 8 + e) = nI p) (hp8 : p < 8) (h2 : fc (t * 8 + e) = nI c) (hl : ln p = nI m) (hcm : c < m) (hm : m ≤ 8) (ho : op (p * 8 + c) = 2) (ha : ar (p * 8 + c) = nI a) (ha8 : a < 8) (hn : hd a = nI t) (hF : ll_FR ln fp (upd fc (t * 8 + e) (nI (c + 1))) (t * 8) (e + 1)) (hp : post (nl, nt, cl, se, vd, rc, op, ar, ln, en, so, ed, re, lv, (if hc a - 1 = 0 then upd hd a (-1) else hd), upd hc a (hc a - 1), fp, upd fc (t * 8 + e) (nI (c + 1)), upd dp t (nI (ll_sd ln fp (upd fc (t * 8 + e) (nI (c + 1))) (t * 8) (e + 1))))) : wpY_exec post (nl, nt, cl, se, vd, rc, op, ar, ln, en, so, ed, re, lv, hd, hc, fp, fc, dp) (nI t) := by
  have ht1 : vp_in (nI t) 4 := vp_in_nI ht (by decide)
  have hz : vp_in (nI (p * 8 + c)) 64 := vp_in_nI (by omega) (by decide)
  have hi : vp_in (nI (t * 8 + e)) 32 := vp_in_nI (by omega) (by decide)
  have c1 : (nI (p * 8 + c)).toNatClampNeg = p * 8 + c := nI_clamp (by omega)
  have c2 : (nI (t * 8 + e)).toNatClampNeg = t * 8 + e := nI_clamp (by omega)
  have c3 : (nI t).toNatClampNeg = t := nI_clamp (by omega)
  have c4 : (nI p).toNatClampNeg = p := nI_clamp (by omega)
  have ce := ll_cel p c
  refine And.intro ht1 (nm_r (e' := nI (e + 1)) (by rw [c3, hdp]) (pk_le (e + 1) 0 (fun h => absurd h (by omega)) (fun _ => pk_le (e + 1) 8 (fun _ => ?_) (fun h => absurd h (by omega)))))
  refine nm_r (e' := nI (t * 8 + e)) (ll_top t e) ⟨hi, nm_r (e' := nI p) (by rw [c2, h1]) ⟨hi, nm_r (e' := nI c) (by rw [c2, h2]) ?_⟩⟩
  refine br_f (nI_pos (by omega)) (pk_lt 7 p (fun h => absurd h (by omega)) (fun _ => br_f (nI_pos (by omega)) ⟨vp_in_nI hp8 (by decide), ?_⟩))
  rw [c4, hl, ce, c1]
  refine pk_lt c m (fun _ => ?_) (fun h => absurd h (by omega))
  refine ⟨hz, nm_r (e' := 2) ho ⟨hz, nm_r (e' := nI a) ha ⟨hi, nm_r (e' := upd fc (t * 8 + e) (nI (c + 1))) (by rw [c2, nI_1]) ?_⟩⟩⟩
  have hia : vp_in (nI a) 8 := vp_in_nI ha8 (by decide)
  have ca : (nI a).toNatClampNeg = a := nI_clamp (by omega)
  refine br_f (by decide) (br_t rfl ⟨hia, br_t (by rw [ca]; exact hn) ⟨hia, hia, nm_r (e' := upd hc a (hc a - 1)) (by rw [ca]) ⟨hia, ?_⟩⟩⟩)
  rw [ca, pk_us]
  by_cases z : hc a - 1 = 0
  · rw [if_pos z] at hp
    exact br_t z ⟨hia, nm_e (ly_326 ht (by omega) hdp hF hp)⟩
  · rw [if_neg z] at hp
    exact br_f z (ly_326 ht (by omega) hdp hF hp)
theorem ly_exC {post : SY → Prop} {t e p c m a : Nat} (ht : t < 4) (he : e + 1 < 8) (hdp : dp t = nI (e + 1)) (h1 : fp (t * 8 + e) = nI p) (hp8 : p < 8) (h2 : fc (t * 8 + e) = nI c) (hl : ln p = nI m) (hcm : c < m) (hm : m ≤ 8) (ho : op (p * 8 + c) = 3) (ha : ar (p * 8 + c) = nI a) (hF : ll_FR ln (upd fp (t * 8 + (e + 1)) (nI a)) (upd (upd fc (t * 8 + e) (nI (c + 1))) (t * 8 + (e + 1)) 0) (t * 8) (e + 2)) (hp : post (nl, nt, cl, se, vd, rc, op, ar, ln, en, so, ed, re, lv, hd, hc, upd fp (t * 8 + (e + 1)) (nI a), upd (upd fc (t * 8 + e) (nI (c + 1))) (t * 8 + (e + 1)) 0, upd dp t (nI (ll_sd ln (upd fp (t * 8 + (e + 1)) (nI a)) (upd (upd fc (t * 8 + e) (nI (c + 1))) (t * 8 + (e + 1)) 0) (t * 8) (e + 2))))) : wpY_exec post (nl, nt, cl, se, vd, rc, op, ar, ln, en, so, ed, re, lv, hd, hc, fp, fc, dp) (nI t) := by
  have ht1 : vp_in (nI t) 4 := vp_in_nI ht (by decide)
  have hz : vp_in (nI (p * 8 + c)) 64 := vp_in_nI (by omega) (by decide)
  have hi : vp_in (nI (t * 8 + e)) 32 := vp_in_nI (by omega) (by decide)
  have c1 : (nI (p * 8 + c)).toNatClampNeg = p * 8 + c := nI_clamp (by omega)
  have c2 : (nI (t * 8 + e)).toNatClampNeg = t * 8 + e := nI_clamp (by omega)
  have c3 : (nI t).toNatClampNeg = t := nI_clamp (by omega)
  have c4 : (nI p).toNatClampNeg = p := nI_clamp (by omega)
  have ce := ll_cel p c
  refine And.intro ht1 (nm_r (e' := nI (e + 1)) (by rw [c3, hdp]) (pk_le (e + 1) 0 (fun h => absurd h (by omega)) (fun _ => pk_le (e + 1) 8 (fun _ => ?_) (fun h => absurd h (by omega)))))
  refine nm_r (e' := nI (t * 8 + e)) (ll_top t e) ⟨hi, nm_r (e' := nI p) (by rw [c2, h1]) ⟨hi, nm_r (e' := nI c) (by rw [c2, h2]) ?_⟩⟩
  refine br_f (nI_pos (by omega)) (pk_lt 7 p (fun h => absurd h (by omega)) (fun _ => br_f (nI_pos (by omega)) ⟨vp_in_nI hp8 (by decide), ?_⟩))
  rw [c4, hl, ce, c1]
  refine pk_lt c m (fun _ => ?_) (fun h => absurd h (by omega))
  refine ⟨hz, nm_r (e' := 3) ho ⟨hz, nm_r (e' := nI a) ha ⟨hi, nm_r (e' := upd fc (t * 8 + e) (nI (c + 1))) (by rw [c2, nI_1]) ?_⟩⟩⟩
  have hj : vp_in (nI (t * 8 + (e + 1))) 32 := vp_in_nI (by omega) (by decide)
  have cj : (nI (t * 8 + (e + 1))).toNatClampNeg = t * 8 + (e + 1) := nI_clamp (by omega)
  refine br_f (by decide) (br_f (by decide) (br_t rfl (pk_le 8 (e + 1) (fun h => absurd h (by omega)) (fun _ => ?_))))
  rw [ll_cel t (e + 1), cj, c3]
  refine ⟨hj, nm_e ⟨hj, nm_e ⟨ht1, nm_r (e' := upd dp t (nI (e + 2))) (by rw [nI_1]) (ly_326 (d := e + 2) ht (by omega) pk_us hF ?_)⟩⟩⟩
  rw [ll_uu]
  exact hp
end
end
section
/-! the relation's parts; one instruction in lockstep -/
def ll_CI (L : Nat) (op ar ln : Nat → Int32) : Prop :=
  ∀ p, p < 8 → ∃ n, n ≤ 8 ∧ ln p = nI n ∧ ∀ i, i < n → (op (p * 8 + i) = 0 ∨ (op (p * 8 + i) = 1 ∧ ∃ a, a < L ∧ ar (p * 8 + i) = nI a) ∨ (op (p * 8 + i) = 2 ∧ ∃ a, a < L ∧ ar (p * 8 + i) = nI a) ∨ (op (p * 8 + i) = 3 ∧ ∃ a, p < a ∧ a < 8 ∧ ar (p * 8 + i) = nI a))
def ll_TO (ln fp fc dp : Nat → Int32) (t : Nat) : Prop :=
  ∃ d, d ≤ 8 ∧ dp t = nI d ∧ ll_FR ln fp fc (t * 8) d ∧ ll_sd ln fp fc (t * 8) d = d
def ll_TS (T : Nat) (ln fp fc dp : Nat → Int32) : Prop :=
  (∀ t, t < T → ll_TO ln fp fc dp t) ∧ (∀ t, T ≤ t → t < 4 → dp t = 0)
/-- locks: X's holders and counts, then the reference's -/
def ll_LK (L T : Nat) (hx cx hy cy : Nat → Int32) : Prop :=
  (∀ l, l < L → hy l = hx l ∧ cy l = cx l ∧ ((hx l = -1 ∧ cx l = 0) ∨ ∃ s, s < T ∧ hx l = nI s)) ∧ (∀ l, L ≤ l → l < 8 → hy l = -1)
/-- locks in a solo run of t after k instructions -/
def ll_SK (L t k : Nat) (hx cx hy cy : Nat → Int32) : Prop :=
  (∀ l, l < L → hy l = hx l ∧ cy l = cx l ∧ ((hx l = -1 ∧ cx l = 0) ∨ (hx l = nI t ∧ ∃ q, 1 ≤ q ∧ q ≤ k ∧ cx l = nI q))) ∧ (∀ l, L ≤ l → l < 8 → hy l = -1)
section
variable {nl nt cl se vd lk rc vy : Int32} {op ar ln en so lv lw ed pa re fp fc dp hd hc hy cy fp' fc' dp' : Nat → Int32}
theorem ll_sd_cg {b : Nat} : ∀ d, (∀ i, i < d → fp' (b + i) = fp (b + i) ∧ fc' (b + i) = fc (b + i)) → ll_sd ln fp' fc' b d = ll_sd ln fp fc b d := by
  intro d
  induction d with
  | zero => intro _; rfl
  | succ d ih =>
    intro h
    have q := ih (fun i hi => h i (by omega))
    have h1 := h d (by omega)
    show (if fc' (b + d) < ln (fp' (b + d)).toNatClampNeg then d + 1 else ll_sd ln fp' fc' b d) = (if fc (b + d) < ln (fp (b + d)).toNatClampNeg then d + 1 else ll_sd ln fp fc b d)
    rw [h1.1, h1.2, q]
theorem ll_TOo {s : Nat} (h : ll_TO ln fp fc dp s) (hf : ∀ i, i < 8 → fp' (s * 8 + i) = fp (s * 8 + i) ∧ fc' (s * 8 + i) = fc (s * 8 + i)) (hdp : dp' s = dp s) : ll_TO ln fp' fc' dp' s := by
  obtain ⟨d, h1, h2, h3, h4⟩ := h
  refine ⟨d, h1, by rw [hdp]; exact h2, fun i hi => ?_, ?_⟩
  · obtain ⟨p, c, n, e⟩ := h3 i hi
    have q := hf i (by omega)
    exact ⟨p, c, n, by rw [q.1]; exact e.1, e.2.1, e.2.2.1, by rw [q.2]; exact e.2.2.2.1, e.2.2.2.2⟩
  · rw [ll_sd_cg d (fun i hi => hf i (by omega))]
    exact h4
theorem ll_TOt {t d : Nat} (h8 : d ≤ 8) (hF : ll_FR ln fp fc (t * 8) d) : ll_TO ln fp fc (upd dp t (nI (ll_sd ln fp fc (t * 8) d))) t := by
  have h := ll_sd_le (ln := ln) (fp := fp) (fc := fc) (b := t * 8) d
  exact ⟨ll_sd ln fp fc (t * 8) d, by omega, pk_us, ll_FRle hF h, ll_sd_id d⟩
theorem ll_TSx {T t d : Nat} (S : ll_TS T ln fp fc dp) (ht : t < T) (hf : ∀ j, (∀ i, i < 8 → j ≠ t * 8 + i) → fp' j = fp j ∧ fc' j = fc j) (h8 : d ≤ 8) (hF : ll_FR ln fp' fc' (t * 8) d) : ll_TS T ln fp' fc' (upd dp t (nI (ll_sd ln fp' fc' (t * 8) d))) := by
  refine ⟨fun s hs => ?_, fun s hs h4 => ?_⟩
  · by_cases e : s = t
    · subst e
      exact ll_TOt h8 hF
    · exact ll_TOo (S.1 s hs) (fun i hi => hf _ (fun i' hi' => by omega)) (pk_un e)
  · rw [pk_un (by omega)]
    exact S.2 s hs h4
theorem ll_FRi {b e p c m : Nat} (hF : ll_FR ln fp fc b (e + 1)) (h1 : fp (b + e) = nI p) (hep : e ≤ p) (hp8 : p < 8) (hl : ln p = nI m) (hcm : c < m) (hm : m ≤ 8) : ll_FR ln fp (upd fc (b + e) (nI (c + 1))) b (e + 1) := by
  intro i hi
  by_cases x : i = e
  · subst x
    exact ⟨p, c + 1, m, h1, hep, hp8, pk_us, hl, by omega, hm⟩
  · rw [pk_un (show b + i ≠ b + e by omega)]
    exact hF i hi
theorem ll_FRc {b d a m : Nat} (hF : ll_FR ln fp fc b d) (hda : d ≤ a) (ha8 : a < 8) (hl : ln a = nI m) (hm : m ≤ 8) : ll_FR ln (upd fp (b + d) (nI a)) (upd fc (b + d) 0) b (d + 1) := by
  intro i hi
  by_cases x : i = d
  · subst x
    exact ⟨a, 0, m, pk_us, hda, ha8, pk_us, hl, by omega, hm⟩
  · rw [pk_un (show b + i ≠ b + d by omega), pk_un (show b + i ≠ b + d by omega)]
    exact hF i (by omega)
theorem ll_cur {t e : Nat} (h : ll_TO ln fp fc dp t) (hdp : dp t = nI (e + 1)) (he : e < 2 ^ 30) : e < 8 ∧ ll_FR ln fp fc (t * 8) (e + 1) ∧ ∃ p c m, fp (t * 8 + e) = nI p ∧ e ≤ p ∧ p < 8 ∧ fc (t * 8 + e) = nI c ∧ ln p = nI m ∧ c < m ∧ m ≤ 8 := by
  obtain ⟨d, h1, h2, h3, h4⟩ := h
  rw [hdp, nI_eq (by omega) (by omega)] at h2
  subst h2
  obtain ⟨p, c, m, e1, e2, e3, e4, e5, e6, e7⟩ := h3 e (by omega)
  refine ⟨by omega, h3, p, c, m, e1, e2, e3, e4, e5, ?_, e7⟩
  by_cases x : c < m
  · exact x
  · have q := ll_sd_f e1 e3 e4 e5 (by omega) e7
    have q2 := ll_sd_le (ln := ln) (fp := fp) (fc := fc) (b := t * 8) e
    omega
theorem ll_LKu {L T a : Nat} {x y : Int32} (h : ll_LK L T hd hc hy cy) (ha : a < L) (hx : (x = -1 ∧ y = 0) ∨ ∃ s, s < T ∧ x = nI s) : ll_LK L T (upd hd a x) (upd hc a y) (upd hy a x) (upd cy a y) := by
  refine ⟨fun l hl => ?_, fun l hl h8 => ?_⟩
  · by_cases e : l = a
    · subst e
      rw [pk_us, pk_us, pk_us, pk_us]
      exact ⟨rfl, rfl, hx⟩
    · rw [pk_un e, pk_un e, pk_un e, pk_un e]
      exact h.1 l hl
  · rw [pk_un (by omega)]
    exact h.2 l hl h8
theorem ll_SKu {L t k a : Nat} {x y : Int32} (h : ll_SK L t k hd hc hy cy) (ha : a < L) (hx : (x = -1 ∧ y = 0) ∨ (x = nI t ∧ ∃ q, 1 ≤ q ∧ q ≤ k + 1 ∧ y = nI q)) : ll_SK L t (k + 1) (upd hd a x) (upd hc a y) (upd hy a x) (upd cy a y) := by
  refine ⟨fun l hl => ?_, fun l hl h8 => ?_⟩
  · by_cases e : l = a
    · subst e
      rw [pk_us, pk_us, pk_us, pk_us]
      exact ⟨rfl, rfl, hx⟩
    · rw [pk_un e, pk_un e, pk_un e, pk_un e]
      refine ⟨(h.1 l hl).1, (h.1 l hl).2.1, ?_⟩
      rcases (h.1 l hl).2.2 with q | ⟨q1, q, q2, q3, q4⟩
      · exact Or.inl q
      · exact Or.inr ⟨q1, q, q2, by omega, q4⟩
  · rw [pk_un (by omega)]
    exact h.2 l hl h8
theorem ll_SKs {L t k : Nat} (h : ll_SK L t k hd hc hy cy) : ll_SK L t (k + 1) hd hc hy cy := by
  refine ⟨fun l hl => ?_, h.2⟩
  refine ⟨(h.1 l hl).1, (h.1 l hl).2.1, ?_⟩
  rcases (h.1 l hl).2.2 with q | ⟨q1, q, q2, q3, q4⟩
  · exact Or.inl q
  · exact Or.inr ⟨q1, q, q2, by omega, q4⟩
theorem ll_ae_cg {t : Int32} {a : Nat} : ∀ k, (∀ l, l < k → hy l = hd l) → ll_ae hy t a k ed = ll_ae hd t a k ed := by
  intro k
  induction k with
  | zero => intro _; rfl
  | succ k ih =>
    intro h
    show (if hy k = t then upd (ll_ae hy t a k ed) (k * 8 + a) 1 else ll_ae hy t a k ed) = (if hd k = t then upd (ll_ae hd t a k ed) (k * 8 + a) 1 else ll_ae hd t a k ed)
    rw [ih (fun l hl => h l (by omega)), h k (by omega)]
theorem ll_ae_up {t : Int32} {a L : Nat} : ∀ r, (∀ l, L ≤ l → l < L + r → ¬ hy l = t) → ll_ae hy t a (L + r) ed = ll_ae hy t a L ed := by
  intro r
  induction r with
  | zero => intro _; rfl
  | succ r ih =>
    intro h
    have e : ll_ae hy t a (L + r + 1) ed = ll_ae hy t a (L + r) ed := if_neg (h (L + r) (by omega) (by omega))
    rw [show L + (r + 1) = L + r + 1 from rfl, e, ih (fun l h1 h2 => h l h1 (by omega))]
theorem lm_exec {L T t e : Nat} (hL : L ≤ 8) (hT : T ≤ 4) (ht : t < T) (C : ll_CI L op ar ln) (S : ll_TS T ln fp fc dp) (K : ll_LK L T hd hc hy cy) (hdp : dp t = nI (e + 1)) (he : e < 8) (hfree : ∀ p c a, p < 8 → c < 8 → a < L → fp (t * 8 + e) = nI p → fc (t * 8 + e) = nI c → op (p * 8 + c) = 1 → ar (p * 8 + c) = nI a → hd a = -1 ∨ hd a = nI t) :
    ∃ fp' fc' dp' hd' hc' hy' cy', ll_TS T ln fp' fc' dp' ∧ ll_LK L T hd' hc' hy' cy' ∧ (∀ post : SX → Prop, post (nl, nt, cl, se, vd, lk, op, ar, ln, en, so, lv, ed, pa, fp', fc', dp', hd', hc') → wpX_execute post (nl, nt, cl, se, vd, lk, op, ar, ln, en, so, lv, ed, pa, fp, fc, dp, hd, hc) (nI t)) ∧ (∀ post : SY → Prop, post (nl, nt, cl, se, vy, 0, op, ar, ln, en, so, ed, re, lw, hy', cy', fp', fc', dp') → wpY_exec post (nl, nt, cl, se, vy, 0, op, ar, ln, en, so, ed, re, lw, hy, cy, fp, fc, dp) (nI t)) := by
  obtain ⟨he8, hF, p, c, m, h1, hep, hp8, h2, hl, hcm, hm⟩ := ll_cur (S.1 t ht) hdp (by omega)
  have hc8 : c < 8 := by omega
  have ht4 : t < 4 := by omega
  obtain ⟨m', hm', hl', hcode⟩ := C p hp8
  have em : m' = m := (nI_eq (by omega) (by omega)).mp (hl'.symm.trans hl)
  subst em
  have hF' := ll_FRi hF h1 hep hp8 hl hcm hm
  have S' : ll_TS T ln fp (upd fc (t * 8 + e) (nI (c + 1))) (upd dp t (nI (ll_sd ln fp (upd fc (t * 8 + e) (nI (c + 1))) (t * 8) (e + 1)))) :=
    ll_TSx S ht (fun j hj => ⟨rfl, pk_un (hj e he8)⟩) (by omega) hF'
  rcases hcode c hcm with ho | ⟨ho, a, haL, ha⟩ | ⟨ho, a, haL, ha⟩ | ⟨ho, a, hpa, ha8, ha⟩
  · exact ⟨_, _, _, _, _, _, _, S', K, fun post hp => lx_exN ht4 he8 hdp h1 hp8 h2 hc8 ho hF' hp, fun post hp => ly_exN ht4 he8 hdp h1 hp8 h2 hl hcm hm ho hF' hp⟩
  · have ha8 : a < 8 := by omega
    have k := K.1 a haL
    by_cases hn : hd a = nI t
    · have hn' : hy a = nI t := k.1.trans hn
      have K' := ll_LKu (x := nI t) (y := hc a + 1) K haL (Or.inr ⟨t, ht, rfl⟩)
      rw [ll_ui hy a _ hn', ← k.2.1] at K'
      rw [k.2.1] at K'
      refine ⟨_, _, _, _, _, _, _, S', K', fun post hp => lx_exA ht4 he8 hdp h1 hp8 h2 hc8 ho ha ha8 hF' hp, fun post hp => ly_exA1 ht4 he8 hdp h1 hp8 h2 hl hcm hm ho ha ha8 hn' hF' ?_⟩
      rw [k.2.1]
      exact hp
    · have hn' : ¬ hy a = nI t := fun q => hn (k.1.symm.trans q)
      have hf := hfree p c a hp8 hc8 haL h1 h2 ho ha
      have z : hd a = -1 ∧ hc a = 0 := by
        rcases k.2.2 with q | ⟨s, hs, q⟩
        · exact q
        · rcases hf with f | f
          · exact absurd (f.symm.trans q) (ll_m1 s (by omega))
          · exact absurd f hn
      have K' := ll_LKu (x := nI t) (y := 1) K haL (Or.inr ⟨t, ht, rfl⟩)
      refine ⟨_, _, _, _, _, _, _, S', K', fun post hp => lx_exA ht4 he8 hdp h1 hp8 h2 hc8 ho ha ha8 hF' ?_, fun post hp => ly_exA0 ht4 he8 hdp h1 hp8 h2 hl hcm hm ho ha ha8 hn' hF' hp⟩
      rw [z.2]
      exact hp
  · have ha8 : a < 8 := by omega
    have k := K.1 a haL
    by_cases hn : hd a = nI t
    · have hn' : hy a = nI t := k.1.trans hn
      by_cases z : hc a - 1 = 0
      · have K' := ll_LKu (x := -1) (y := hc a - 1) K haL (Or.inl ⟨rfl, z⟩)
        refine ⟨_, _, _, _, _, _, _, S', K', fun post hp => lx_exR1 ht4 he8 hdp h1 hp8 h2 hc8 ho ha ha8 hn hF' ?_, fun post hp => ly_exR1 ht4 he8 hdp h1 hp8 h2 hl hcm hm ho ha ha8 hn' hF' ?_⟩
        · rw [if_pos z]; exact hp
        · rw [k.2.1, if_pos z]; exact hp
      · have K' := ll_LKu (x := nI t) (y := hc a - 1) K haL (Or.inr ⟨t, ht, rfl⟩)
        rw [ll_ui hy a _ hn', ll_ui hd a _ hn] at K'
        refine ⟨_, _, _, _, _, _, _, S', K', fun post hp => lx_exR1 ht4 he8 hdp h1 hp8 h2 hc8 ho ha ha8 hn hF' ?_, fun post hp => ly_exR1 ht4 he8 hdp h1 hp8 h2 hl hcm hm ho ha ha8 hn' hF' ?_⟩
        · rw [if_neg z]; exact hp
        · rw [k.2.1, if_neg z]; exact hp
    · have hn' : ¬ hy a = nI t := fun q => hn (k.1.symm.trans q)
      exact ⟨_, _, _, _, _, _, _, S', K, fun post hp => lx_exR0 ht4 he8 hdp h1 hp8 h2 hc8 ho ha ha8 hn hF' hp, fun post hp => ly_exR0 ht4 he8 hdp h1 hp8 h2 hl hcm hm ho ha ha8 hn' hF' hp⟩
  · obtain ⟨ma, hma, hla, _⟩ := C a ha8
    have hF2 := ll_FRc (a := a) (m := ma) hF' (by omega) ha8 hla hma
    have S2 := ll_TSx (dp := dp) (d := e + 2) S ht (fun j hj => ⟨pk_un (hj (e + 1) (by omega)), by rw [pk_un (hj (e + 1) (by omega)), pk_un (hj e he8)]⟩) (by omega) hF2
    exact ⟨_, _, _, _, _, _, _, S2, K, fun post hp => lx_exC ht4 (by omega) hdp h1 hp8 h2 hc8 ho ha hF2 hp, fun post hp => ly_exC ht4 (by omega) hdp h1 hp8 h2 hl hcm hm ho ha hF2 hp⟩
theorem lm_solo1 {L T t e k : Nat} (hL : L ≤ 8) (hT : T ≤ 4) (hk : k ≤ 600) (ht : t < T) (C : ll_CI L op ar ln) (S : ll_TS T ln fp fc dp) (K : ll_SK L t k hd hc hy cy) (hdp : dp t = nI (e + 1)) (he : e < 8) :
    ∃ fp' fc' dp' hd' hc' hy' cy' ed', ll_TS T ln fp' fc' dp' ∧ ll_SK L t (k + 1) hd' hc' hy' cy' ∧ (ed' = ed ∨ ∃ a, a < L ∧ ed' = ll_ae hd (nI t) a L ed) ∧ (∀ post : SX → Prop, post (nI L, nt, cl, se, vd, lk, op, ar, ln, en, so, lv, ed', pa, fp, fc, dp, hd, hc) → wpX_addEdges post (nI L, nt, cl, se, vd, lk, op, ar, ln, en, so, lv, ed, pa, fp, fc, dp, hd, hc) (nI t)) ∧ (∀ post : SX → Prop, post (nI L, nt, cl, se, vd, lk, op, ar, ln, en, so, lv, ed', pa, fp', fc', dp', hd', hc') → wpX_execute post (nI L, nt, cl, se, vd, lk, op, ar, ln, en, so, lv, ed', pa, fp, fc, dp, hd, hc) (nI t)) ∧ (∀ post : SY → Prop, post (nI L, nt, cl, se, vy, 1, op, ar, ln, en, so, ed', re, lw, hy', cy', fp', fc', dp') → wpY_exec post (nI L, nt, cl, se, vy, 1, op, ar, ln, en, so, ed, re, lw, hy, cy, fp, fc, dp) (nI t)) := by
  obtain ⟨he8, hF, p, c, m, h1, hep, hp8, h2, hl, hcm, hm⟩ := ll_cur (S.1 t ht) hdp (by omega)
  have hc8 : c < 8 := by omega
  have ht4 : t < 4 := by omega
  obtain ⟨m', hm', hl', hcode⟩ := C p hp8
  have em : m' = m := (nI_eq (by omega) (by omega)).mp (hl'.symm.trans hl)
  subst em
  have hF' := ll_FRi hF h1 hep hp8 hl hcm hm
  have S' : ll_TS T ln fp (upd fc (t * 8 + e) (nI (c + 1))) (upd dp t (nI (ll_sd ln fp (upd fc (t * 8 + e) (nI (c + 1))) (t * 8) (e + 1)))) :=
    ll_TSx S ht (fun j hj => ⟨rfl, pk_un (hj e he8)⟩) (by omega) hF'
  rcases hcode c hcm with ho | ⟨ho, a, haL, ha⟩ | ⟨ho, a, haL, ha⟩ | ⟨ho, a, hpa, ha8, ha⟩
  · have ho1 : ¬ op (p * 8 + c) = 1 := by rw [ho]; decide
    exact ⟨_, _, _, _, _, _, _, ed, S', ll_SKs K, Or.inl rfl, fun post hp => lx_ae0 ht4 he8 hdp h1 hp8 h2 hc8 ho1 hp, fun post hp => lx_exN ht4 he8 hdp h1 hp8 h2 hc8 ho hF' hp, fun post hp => ly_exN ht4 he8 hdp h1 hp8 h2 hl hcm hm ho hF' hp⟩
  · have ha8 : a < 8 := by omega
    have k1 := K.1 a haL
    by_cases hn : hd a = nI t
    · have hn' : hy a = nI t := k1.1.trans hn
      obtain ⟨q, q1, q2, q3⟩ : ∃ q, 1 ≤ q ∧ q ≤ k ∧ hc a = nI q := by
        rcases k1.2.2 with z | z
        · exact absurd (z.1.symm.trans hn) (ll_m1 t (by omega))
        · exact z.2
      have K' := ll_SKu (x := nI t) (y := hc a + 1) K haL (Or.inr ⟨rfl, q + 1, by omega, by omega, by rw [q3, nI_1]⟩)
      rw [ll_ui hy a _ hn', ← k1.2.1] at K'
      rw [k1.2.1] at K'
      refine ⟨_, _, _, _, _, _, _, ed, S', K', Or.inl rfl, fun post hp => lx_ae1 ht4 he8 hdp h1 hp8 h2 hc8 ho ha ha8 hn hp, fun post hp => lx_exA ht4 he8 hdp h1 hp8 h2 hc8 ho ha ha8 hF' hp, fun post hp => ly_exA1 ht4 he8 hdp h1 hp8 h2 hl hcm hm ho ha ha8 hn' hF' ?_⟩
      rw [k1.2.1]
      exact hp
    · have hn' : ¬ hy a = nI t := fun q => hn (k1.1.symm.trans q)
      have z : hd a = -1 ∧ hc a = 0 := by
        rcases k1.2.2 with q | q
        · exact q
        · exact absurd q.1 hn
      have K' := ll_SKu (x := nI t) (y := 1) K haL (Or.inr ⟨rfl, 1, by omega, by omega, rfl⟩)
      have hcp : ∀ l, l < 8 → hy l = nI t → ¬ cy l ≤ 0 := by
        intro l hl8 hh
        by_cases x : l < L
        · rw [(K.1 l x).2.1]
          rw [(K.1 l x).1] at hh
          rcases (K.1 l x).2.2 with z | ⟨_, q, q1, q2, q3⟩
          · exact absurd (z.1.symm.trans hh) (ll_m1 t (by omega))
          · rw [q3]
            exact nI_nle (by omega) (by omega)
        · exact absurd ((K.2 l (by omega) hl8).symm.trans hh) (ll_m1 t (by omega))
      have hae : ll_ae hy (nI t) a 8 ed = ll_ae hd (nI t) a L ed := by
        obtain ⟨r, hr⟩ : ∃ r, 8 = L + r := ⟨8 - L, by omega⟩
        rw [hr, ll_ae_up r (fun l h1 h2 q => absurd ((K.2 l h1 (by omega)).symm.trans q) (ll_m1 t (by omega)))]
        exact ll_ae_cg L (fun l hl => (K.1 l hl).1)
      refine ⟨_, _, _, _, _, _, _, ll_ae hd (nI t) a L ed, S', K', Or.inr ⟨a, haL, rfl⟩, fun post hp => lx_ae2 hL ht4 he8 hdp h1 hp8 h2 hc8 ho ha ha8 hn hp, fun post hp => lx_exA ht4 he8 hdp h1 hp8 h2 hc8 ho ha ha8 hF' ?_, fun post hp => ly_exA2 ht4 he8 hdp h1 hp8 h2 hl hcm hm ho ha ha8 hn' hcp hF' ?_⟩
      · rw [z.2]
        exact hp
      · rw [hae]
        exact hp
  · have ho1 : ¬ op (p * 8 + c) = 1 := by rw [ho]; decide
    have ha8 : a < 8 := by omega
    have k1 := K.1 a haL
    by_cases hn : hd a = nI t
    · have hn' : hy a = nI t := k1.1.trans hn
      obtain ⟨q, q1, q2, q3⟩ : ∃ q, 1 ≤ q ∧ q ≤ k ∧ hc a = nI q := by
        rcases k1.2.2 with z | z
        · exact absurd (z.1.symm.trans hn) (ll_m1 t (by omega))
        · exact z.2
      obtain ⟨q', rfl⟩ : ∃ q', q = q' + 1 := ⟨q - 1, by omega⟩
      by_cases z : hc a - 1 = 0
      · have K' := ll_SKu (x := -1) (y := hc a - 1) K haL (Or.inl ⟨rfl, z⟩)
        refine ⟨_, _, _, _, _, _, _, ed, S', K', Or.inl rfl, fun post hp => lx_ae0 ht4 he8 hdp h1 hp8 h2 hc8 ho1 hp, fun post hp => lx_exR1 ht4 he8 hdp h1 hp8 h2 hc8 ho ha ha8 hn hF' ?_, fun post hp => ly_exR1 ht4 he8 hdp h1 hp8 h2 hl hcm hm ho ha ha8 hn' hF' ?_⟩
        · rw [if_pos z]; exact hp
        · rw [k1.2.1, if_pos z]; exact hp
      · have z' : 1 ≤ q' := by
          rw [q3, nI_pred] at z
          by_cases x : q' = 0
          · rw [x] at z; exact absurd rfl z
          · omega
        have K' := ll_SKu (x := nI t) (y := hc a - 1) K haL (Or.inr ⟨rfl, q', z', by omega, by rw [q3, nI_pred]⟩)
        rw [ll_ui hy a _ hn', ll_ui hd a _ hn] at K'
        refine ⟨_, _, _, _, _, _, _, ed, S', K', Or.inl rfl, fun post hp => lx_ae0 ht4 he8 hdp h1 hp8 h2 hc8 ho1 hp, fun post hp => lx_exR1 ht4 he8 hdp h1 hp8 h2 hc8 ho ha ha8 hn hF' ?_, fun post hp => ly_exR1 ht4 he8 hdp h1 hp8 h2 hl hcm hm ho ha ha8 hn' hF' ?_⟩
        · rw [if_neg z]; exact hp
        · rw [k1.2.1, if_neg z]; exact hp
    · have hn' : ¬ hy a = nI t := fun q => hn (k1.1.symm.trans q)
      exact ⟨_, _, _, _, _, _, _, ed, S', ll_SKs K, Or.inl rfl, fun post hp => lx_ae0 ht4 he8 hdp h1 hp8 h2 hc8 ho1 hp, fun post hp => lx_exR0 ht4 he8 hdp h1 hp8 h2 hc8 ho ha ha8 hn hF' hp, fun post hp => ly_exR0 ht4 he8 hdp h1 hp8 h2 hl hcm hm ho ha ha8 hn' hF' hp⟩
  · have ho1 : ¬ op (p * 8 + c) = 1 := by rw [ho]; decide
    obtain ⟨ma, hma, hla, _⟩ := C a ha8
    have hF2 := ll_FRc (a := a) (m := ma) hF' (by omega) ha8 hla hma
    have S2 := ll_TSx (dp := dp) (d := e + 2) S ht (fun j hj => ⟨pk_un (hj (e + 1) (by omega)), by rw [pk_un (hj (e + 1) (by omega)), pk_un (hj e he8)]⟩) (by omega) hF2
    exact ⟨_, _, _, _, _, _, _, ed, S2, ll_SKs K, Or.inl rfl, fun post hp => lx_ae0 ht4 he8 hdp h1 hp8 h2 hc8 ho1 hp, fun post hp => lx_exC ht4 (by omega) hdp h1 hp8 h2 hc8 ho ha hF2 hp, fun post hp => ly_exC ht4 (by omega) hdp h1 hp8 h2 hl hcm hm ho ha hF2 hp⟩
end
end
section
/-! freeing, starting, the solo runs in lockstep -/
def ll_fl (L : Nat) (f : Nat → Int32) (x : Int32) : Nat → Int32 := fun j => if j < L then x else f j
def ll_EN (en : Nat → Int32) : Prop := ∀ t, t < 4 → ∃ p, p < 8 ∧ en t = nI p
def ll_EB (L : Nat) (ed : Nat → Int32) : Prop := ll_B ed ∧ ∀ a b, a < 8 → b < 8 → ¬ ed (a * 8 + b) = 0 → a < L ∧ b < L
section
variable {nl nt cl se vd lk rc vy : Int32} {op ar ln en so lv lw ed pa re fp fc dp hd hc hy cy fp' fc' dp' : Nat → Int32}
theorem ll_fl_s (f : Nat → Int32) (k : Nat) (x : Int32) : upd (ll_fl k f x) k x = ll_fl (k + 1) f x := by
  funext j
  by_cases e : j = k
  · rw [e, pk_us]
    exact (if_pos (by omega)).symm
  · rw [pk_un e]
    show (if j < k then x else f j) = (if j < k + 1 then x else f j)
    by_cases h : j < k
    · rw [if_pos h, if_pos (by omega)]
    · rw [if_neg h, if_neg (by omega)]
theorem ll_fl_0 (f : Nat → Int32) (x : Int32) : ll_fl 0 f x = f := by
  funext j
  exact if_neg (by omega)
theorem ll_fl_t {f : Nat → Int32} {L j : Nat} {x : Int32} (h : j < L) : ll_fl L f x j = x := if_pos h
theorem ll_fl_f {f : Nat → Int32} {L j : Nat} {x : Int32} (h : L ≤ j) : ll_fl L f x j = f j := if_neg (by omega)
theorem lx_free2 {post : SX → Prop} {L : Nat} (hL : L ≤ 8) (hp : post (nI L, nt, cl, se, vd, lk, op, ar, ln, en, so, lv, ed, pa, fp, fc, dp, ll_fl L hd (-1), ll_fl L hc 0)) : ∀ (r n k : Nat), k + r = L → r < n → wX_freeAllLocks_2 post (nI L) nt cl se vd lk n (nI k) op ar ln en so lv ed pa fp fc dp (ll_fl k hd (-1)) (ll_fl k hc 0) := by
  intro r
  induction r with
  | zero =>
    intro n k hk hn
    obtain ⟨n, rfl⟩ : ∃ m, n = m + 1 := ⟨n - 1, by omega⟩
    have e : k = L := by omega
    subst e
    exact pk_le k k (fun _ => hp) (fun h => absurd h (by omega))
  | succ r ih =>
    intro n k hk hn
    obtain ⟨n, rfl⟩ : ∃ m, n = m + 1 := ⟨n - 1, by omega⟩
    have c1 : (nI k).toNatClampNeg = k := nI_clamp (by omega)
    have q := ih n (k + 1) (by omega) (by omega)
    have hi : vp_in (nI k) 8 := vp_in_nI (by omega) (by decide)
    exact pk_le L k (fun h => absurd h (by omega)) (fun _ => And.intro hi (nm_r (e' := ll_fl (k + 1) hd (-1)) (by rw [c1, ll_fl_s]) ⟨hi, nm_r (e' := ll_fl (k + 1) hc 0) (by rw [c1, ll_fl_s]) (nm_r (nI_1 k) q)⟩))
theorem lx_free {post : SX → Prop} {L : Nat} (hL : L ≤ 8) (hp : post (nI L, nt, cl, se, vd, lk, op, ar, ln, en, so, lv, ed, pa, fp, fc, dp, ll_fl L hd (-1), ll_fl L hc 0)) : wpX_freeAllLocks post (nI L, nt, cl, se, vd, lk, op, ar, ln, en, so, lv, ed, pa, fp, fc, dp, hd, hc) := by
  have q := lx_free2 hL hp L (L + 1) 0 (by omega) (by omega)
  rw [ll_fl_0, ll_fl_0] at q
  exact ⟨L + 1, q⟩
theorem ly_free2 {post : SY → Prop} (hp : post (nl, nt, cl, se, vd, rc, op, ar, ln, en, so, ed, re, lv, ll_fl 8 hd (-1), ll_fl 8 hc 0, fp, fc, dp)) : ∀ (r n k : Nat), k + r = 8 → r < n → wY_freeLocks_2 post nl nt cl se vd rc n (nI k) op ar ln en so ed re lv (ll_fl k hd (-1)) (ll_fl k hc 0) fp fc dp := by
  intro r
  induction r with
  | zero =>
    intro n k hk hn
    obtain ⟨n, rfl⟩ : ∃ m, n = m + 1 := ⟨n - 1, by omega⟩
    have e : k = 8 := by omega
    subst e
    exact pk_le 8 8 (fun _ => hp) (fun h => absurd h (by omega))
  | succ r ih =>
    intro n k hk hn
    obtain ⟨n, rfl⟩ : ∃ m, n = m + 1 := ⟨n - 1, by omega⟩
    have c1 : (nI k).toNatClampNeg = k := nI_clamp (by omega)
    have q := ih n (k + 1) (by omega) (by omega)
    have hi : vp_in (nI k) 8 := vp_in_nI (by omega) (by decide)
    exact pk_le 8 k (fun h => absurd h (by omega)) (fun _ => And.intro hi (nm_r (e' := ll_fl (k + 1) hd (-1)) (by rw [c1, ll_fl_s]) ⟨hi, nm_r (e' := ll_fl (k + 1) hc 0) (by rw [c1, ll_fl_s]) (nm_r (nI_1 k) q)⟩))
theorem ly_free {post : SY → Prop} (hp : post (nl, nt, cl, se, vd, rc, op, ar, ln, en, so, ed, re, lv, ll_fl 8 hd (-1), ll_fl 8 hc 0, fp, fc, dp)) : wpY_freeLocks post (nl, nt, cl, se, vd, rc, op, ar, ln, en, so, ed, re, lv, hd, hc, fp, fc, dp) := by
  have q := ly_free2 hp 8 9 0 (by omega) (by omega)
  rw [ll_fl_0, ll_fl_0] at q
  exact ⟨9, q⟩
theorem ll_TOs {t p m : Nat} (hp8 : p < 8) (hl : ln p = nI m) (hm : m ≤ 8) : ll_TO ln (upd fp (t * 8) (nI p)) (upd fc (t * 8) 0) (upd dp t (nI (if 0 < m then 1 else 0))) t := by
  have f1 : upd fp (t * 8) (nI p) (t * 8 + 0) = nI p := pk_us
  have f2 : upd fc (t * 8) 0 (t * 8 + 0) = nI 0 := pk_us
  by_cases h : 0 < m
  · rw [if_pos h]
    refine ⟨1, by omega, pk_us, fun i hi => ?_, ll_sd_t f1 hp8 f2 hl h hm⟩
    have e : i = 0 := by omega
    subst e
    exact ⟨p, 0, m, f1, by omega, hp8, f2, hl, by omega, hm⟩
  · rw [if_neg h]
    exact ⟨0, by omega, pk_us, fun i hi => absurd hi (by omega), rfl⟩
theorem ll_TSs {T t p m : Nat} (S : ll_TS T ln fp fc dp) (ht : t < T) (hp8 : p < 8) (hl : ln p = nI m) (hm : m ≤ 8) : ll_TS T ln (upd fp (t * 8) (nI p)) (upd fc (t * 8) 0) (upd dp t (nI (if 0 < m then 1 else 0))) := by
  refine ⟨fun s hs => ?_, fun s hs h4 => ?_⟩
  · by_cases e : s = t
    · subst e
      exact ll_TOs hp8 hl hm
    · exact ll_TOo (S.1 s hs) (fun i hi => ⟨pk_un (by omega), pk_un (by omega)⟩) (pk_un e)
  · rw [pk_un (by omega)]
    exact S.2 s hs h4
theorem lm_reset {L T : Nat} (hT : T ≤ 4) (C : ll_CI L op ar ln) (hen : ll_EN en) : ∀ (r k : Nat) (fp fc dx dy : Nat → Int32), k + r = T → (∀ s, s < k → ll_TO ln fp fc dx s) → (∀ j, (j < k ∨ T ≤ j) → dy j = dx j) → (∀ j, T ≤ j → j < 4 → dx j = 0) →
    ∃ fp' fc' dp', ll_TS T ln fp' fc' dp' ∧ (∀ (post : SX → Prop) (nl cl se vd lk : Int32) (so lv ed pa hd hc : Nat → Int32) (n : Nat), r < n → post (nl, nI T, cl, se, vd, lk, op, ar, ln, en, so, lv, ed, pa, fp', fc', dp', hd, hc) → wX_resetMachine_6 post n (nI k) nl (nI T) cl se vd lk op ar ln en so lv ed pa fp fc dx hd hc) ∧ (∀ (post : SY → Prop) (nl cl se vy rc : Int32) (so ed re lw hy cy : Nat → Int32) (n : Nat), r < n → post (nl, nI T, cl, se, vy, rc, op, ar, ln, en, so, ed, re, lw, hy, cy, fp', fc', dp') → wY_restartMachine_26 post n (nI k) nl (nI T) cl se vy rc op ar ln en so ed re lw hy cy fp fc dy) := by
  intro r
  induction r with
  | zero =>
    intro k fp fc dx dy hk hs hj h0
    have e : k = T := by omega
    subst e
    have edy : dy = dx := funext (fun j => hj j (by omega))
    subst edy
    refine ⟨fp, fc, dy, ⟨hs, h0⟩, fun post nl cl se vd lk so lv ed pa hd hc n hn hp => ?_, fun post nl cl se vy rc so ed re lw hy cy n hn hp => ?_⟩
    · obtain ⟨n, rfl⟩ : ∃ m, n = m + 1 := ⟨n - 1, by omega⟩
      exact pk_le k k (fun _ => hp) (fun h => absurd h (by omega))
    · obtain ⟨n, rfl⟩ : ∃ m, n = m + 1 := ⟨n - 1, by omega⟩
      exact pk_le k k (fun _ => hp) (fun h => absurd h (by omega))
  | succ r ih =>
    intro k fp fc dx dy hk hs hj h0
    obtain ⟨p, hp8, he⟩ := hen k (by omega)
    obtain ⟨m, hm, hl, _⟩ := C p hp8
    obtain ⟨fp', fc', dp', S, hX, hY⟩ := ih (k + 1) (upd fp (k * 8) (nI p)) (upd fc (k * 8) 0) (upd dx k (nI (if 0 < m then 1 else 0))) (upd dy k (nI (if 0 < m then 1 else 0))) (by omega) (fun s hs' => by
        by_cases e : s = k
        · subst e
          exact ll_TOs hp8 hl hm
        · exact ll_TOo (hs s (by omega)) (fun i hi => ⟨pk_un (by omega), pk_un (by omega)⟩) (pk_un e)) (fun j hj' => by
        by_cases e : j = k
        · rw [e, pk_us, pk_us]
        · rw [pk_un e, pk_un e]
          exact hj j (by omega)) (fun j h1 h2 => by
        rw [pk_un (by omega)]
        exact h0 j h1 h2)
    refine ⟨fp', fc', dp', S, fun post nl cl se vd lk so lv ed pa hd hc n hn hp => ?_, fun post nl cl se vy rc so ed re lw hy cy n hn hp => ?_⟩
    · obtain ⟨n, rfl⟩ : ∃ m, n = m + 1 := ⟨n - 1, by omega⟩
      exact pk_le T k (fun h => absurd h (by omega)) (fun _ => lx_start (by omega) he hp8 hl hm (nm_r (nI_1 k) (hX post nl cl se vd lk so lv ed pa hd hc n (by omega) hp)))
    · obtain ⟨n, rfl⟩ : ∃ m, n = m + 1 := ⟨n - 1, by omega⟩
      exact pk_le T k (fun h => absurd h (by omega)) (fun _ => ly_start (by omega) he hp8 hl hm (nm_r (nI_1 k) (hY post nl cl se vy rc so ed re lw hy cy n (by omega) hp)))
theorem ly_zero {post : SY → Prop} {T : Nat} (hp : ∃ n, wY_restartMachine_26 post n 0 nl nt cl se vd rc op ar ln en so ed re lv hd hc fp fc (ll_fl 4 dp 0)) : ∀ (r n k : Nat), k + r = 4 → r < n → wY_restartMachine_6 post nl nt cl se vd rc n (nI k) op ar ln en so ed re lv hd hc fp fc (ll_fl k dp 0) := by
  intro r
  induction r with
  | zero =>
    intro n k hk hn
    obtain ⟨n, rfl⟩ : ∃ m, n = m + 1 := ⟨n - 1, by omega⟩
    have e : k = 4 := by omega
    subst e
    exact pk_le 4 4 (fun _ => hp) (fun h => absurd h (by omega))
  | succ r ih =>
    intro n k hk hn
    obtain ⟨n, rfl⟩ : ∃ m, n = m + 1 := ⟨n - 1, by omega⟩
    have c1 : (nI k).toNatClampNeg = k := nI_clamp (by omega)
    have q := ih n (k + 1) (by omega) (by omega)
    have hi : vp_in (nI k) 4 := vp_in_nI (by omega) (by decide)
    exact pk_le 4 k (fun h => absurd h (by omega)) (fun _ => And.intro hi (nm_r (e' := ll_fl (k + 1) dp 0) (by rw [c1, ll_fl_s]) (nm_r (nI_1 k) q)))
theorem lm_restart {L T : Nat} (hL : L ≤ 8) (hT : T ≤ 4) (C : ll_CI L op ar ln) (hen : ll_EN en) (S : ll_TS T ln fp fc dp) :
    ∃ fp' fc' dp', ll_TS T ln fp' fc' dp' ∧ (∀ (post : SX → Prop) (cl se vd lk : Int32) (so lv ed pa hd hc : Nat → Int32), post (nI L, nI T, cl, se, vd, lk, op, ar, ln, en, so, lv, ed, pa, fp', fc', dp', ll_fl L hd (-1), ll_fl L hc 0) → wpX_resetMachine post (nI L, nI T, cl, se, vd, lk, op, ar, ln, en, so, lv, ed, pa, fp, fc, dp, hd, hc)) ∧ (∀ (post : SY → Prop) (cl se vy rc : Int32) (so ed re lw hy cy : Nat → Int32), post (nI L, nI T, cl, se, vy, rc, op, ar, ln, en, so, ed, re, lw, ll_fl 8 hy (-1), ll_fl 8 cy 0, fp', fc', dp') → wpY_restartMachine post (nI L, nI T, cl, se, vy, rc, op, ar, ln, en, so, ed, re, lw, hy, cy, fp, fc, dp)) := by
  obtain ⟨fp', fc', dp', S', hX, hY⟩ := lm_reset hT C hen T 0 fp fc dp (ll_fl 4 dp 0) (by omega) (fun s hs => absurd hs (by omega)) (fun j hj => by
    by_cases h : j < 4
    · rw [ll_fl_t h, S.2 j (by omega) h]
    · rw [ll_fl_f (by omega)]) S.2
  refine ⟨fp', fc', dp', S', fun post cl se vd lk so lv ed pa hd hc hp => ?_, fun post cl se vy rc so ed re lw hy cy hp => ?_⟩
  · unfold wpX_resetMachine
    refine lx_free hL ⟨T + 1, ?_⟩
    exact hX post _ _ _ _ _ _ _ _ _ _ _ (T + 1) (by omega) hp
  · unfold wpY_restartMachine
    refine ly_free ⟨5, ?_⟩
    have q := ly_zero (T := T) (post := post) ⟨T + 1, hY post (nI L) cl se vy rc so ed re lw (ll_fl 8 hy (-1)) (ll_fl 8 cy 0) (T + 1) (by omega) hp⟩ 4 5 0 (by omega) (by omega)
    rw [ll_fl_0] at q
    exact q
theorem ll_LKf {L T : Nat} (hL : L ≤ 8) : ll_LK L T (ll_fl L hd (-1)) (ll_fl L hc 0) (ll_fl 8 hy (-1)) (ll_fl 8 cy 0) := by
  refine ⟨fun l hl => ?_, fun l hl h8 => ll_fl_t h8⟩
  rw [ll_fl_t hl, ll_fl_t hl, ll_fl_t (by omega), ll_fl_t (by omega)]
  exact ⟨rfl, rfl, Or.inl ⟨rfl, rfl⟩⟩
theorem ll_SKf {L t : Nat} (hL : L ≤ 8) : ll_SK L t 0 (ll_fl L hd (-1)) (ll_fl L hc 0) (ll_fl 8 hy (-1)) (ll_fl 8 cy 0) := by
  refine ⟨fun l hl => ?_, fun l hl h8 => ll_fl_t h8⟩
  rw [ll_fl_t hl, ll_fl_t hl, ll_fl_t (by omega), ll_fl_t (by omega)]
  exact ⟨rfl, rfl, Or.inl ⟨rfl, rfl⟩⟩
theorem ll_EBu {L k a : Nat} (h : ll_EB L ed) (hL : L ≤ 8) (hk : k < L) (ha : a < L) : ll_EB L (upd ed (k * 8 + a) 1) := by
  refine ⟨ll_Bu h.1 _ (Or.inr rfl), fun x y hx hy hne => ?_⟩
  by_cases e : x * 8 + y = k * 8 + a
  · exact ⟨by omega, by omega⟩
  · rw [pk_un e] at hne
    exact h.2 x y hx hy hne
theorem ll_EBa {L a : Nat} {t : Int32} (h : ll_EB L ed) (hL : L ≤ 8) (ha : a < L) : ∀ k, k ≤ L → ll_EB L (ll_ae hd t a k ed) := by
  intro k
  induction k with
  | zero => intro _; exact h
  | succ k ih =>
    intro hk
    by_cases z : hd k = t
    · have e : ll_ae hd t a (k + 1) ed = upd (ll_ae hd t a k ed) (k * 8 + a) 1 := if_pos z
      rw [e]
      exact ll_EBu (ih (by omega)) hL (by omega) ha
    · have e : ll_ae hd t a (k + 1) ed = ll_ae hd t a k ed := if_neg z
      rw [e]
      exact ih (by omega)
theorem ly_idle {post : SY → Prop} {t : Nat} {x : Int32} (ht : t < 4) (hdp : dp t = nI 0) (hp : post (nl, nt, cl, se, vd, rc, op, ar, ln, en, upd so t x, ed, re, lv, hd, hc, fp, fc, dp)) : ∀ (r n k : Nat), k + r = 513 → r < n → wY_soloRun_13 post (nI t) n x (nI k) nl nt cl se vd rc op ar ln en so ed re lv hd hc fp fc dp := by
  have ht1 : vp_in (nI t) 4 := vp_in_nI ht (by decide)
  have c3 : (nI t).toNatClampNeg = t := nI_clamp (by omega)
  intro r
  induction r with
  | zero =>
    intro n k hk hn
    obtain ⟨n, rfl⟩ : ∃ m, n = m + 1 := ⟨n - 1, by omega⟩
    have e : k = 513 := by omega
    subst e
    exact pk_le 513 513 (fun _ => And.intro ht1 (nm_r (e' := upd so t x) (by rw [c3]) hp)) (fun h => absurd h (by omega))
  | succ r ih =>
    intro n k hk hn
    obtain ⟨n, rfl⟩ : ∃ m, n = m + 1 := ⟨n - 1, by omega⟩
    exact pk_le 513 k (fun h => absurd h (by omega)) (fun _ => And.intro ht1 (pk_le 0 0 (fun _ => nm_r (nI_1 k) (ih n (k + 1) (by omega) (by omega))) (fun h => absurd h (by omega)) (by rw [c3]; exact hdp)))
theorem lm_solo {L T t : Nat} (hL : L ≤ 8) (hT : T ≤ 4) (ht : t < T) (C : ll_CI L op ar ln) : ∀ (r k : Nat) (fp fc dp hd hc hy cy ed : Nat → Int32), k + r = 513 → ll_TS T ln fp fc dp → ll_SK L t k hd hc hy cy → ll_EB L ed →
    ∃ fp' fc' dp' hd' hc' hy' cy' ed' m, m ≤ 513 ∧ ll_TS T ln fp' fc' dp' ∧ ll_EB L ed' ∧ (∀ (post : Int32 → SX → Prop) (n : Nat), r < n → post (nI m) (nI L, nt, cl, se, vd, lk, op, ar, ln, en, so, lv, ed', pa, fp', fc', dp', hd', hc') → wX_runAlone_11 post (nI t) n (nI k) (nI L) nt cl se vd lk op ar ln en so lv ed pa fp fc dp hd hc) ∧ (∀ (post : SY → Prop) (n : Nat), r < n → post (nI L, nt, cl, se, vy, 1, op, ar, ln, en, upd so t (nI m), ed', re, lw, hy', cy', fp', fc', dp') → wY_soloRun_13 post (nI t) n (nI k) (nI k) (nI L) nt cl se vy 1 op ar ln en so ed re lw hy cy fp fc dp) := by
  have ht4 : t < 4 := by omega
  have ht1 : vp_in (nI t) 4 := vp_in_nI ht4 (by decide)
  have c3 : (nI t).toNatClampNeg = t := nI_clamp (by omega)
  intro r
  induction r with
  | zero =>
    intro k fp fc dp hd hc hy cy ed hk S K B
    have e : k = 513 := by omega
    subst e
    refine ⟨fp, fc, dp, hd, hc, hy, cy, ed, 513, Nat.le_refl _, S, B, fun post n hn hp => ?_, fun post n hn hp => ?_⟩
    · obtain ⟨n, rfl⟩ : ∃ m, n = m + 1 := ⟨n - 1, by omega⟩
      exact pk_lt 512 513 (fun _ => hp) (fun h => absurd h (by omega))
    · obtain ⟨n, rfl⟩ : ∃ m, n = m + 1 := ⟨n - 1, by omega⟩
      exact pk_le 513 513 (fun _ => And.intro ht1 (nm_r (e' := upd so t (nI 513)) (by rw [c3]) hp)) (fun h => absurd h (by omega))
  | succ r ih =>
    intro k fp fc dp hd hc hy cy ed hk S K B
    obtain ⟨d, hd8, hdp, hF, hsd⟩ := S.1 t ht
    cases d with
    | zero =>
      refine ⟨fp, fc, dp, hd, hc, hy, cy, ed, k, by omega, S, B, fun post n hn hp => ?_, fun post n hn hp => ?_⟩
      · obtain ⟨n, rfl⟩ : ∃ m, n = m + 1 := ⟨n - 1, by omega⟩
        exact pk_lt 512 k (fun h => absurd h (by omega)) (fun _ => lx_isDone ht4 hdp (by omega) (fun _ => br_f (by decide) hp) (fun h => absurd rfl h))
      · exact ly_idle ht4 hdp hp (r + 1) n k hk hn
    | succ e =>
      obtain ⟨fp1, fc1, dp1, hd1, hc1, hy1, cy1, ed1, S1, K1, E1, hA, hX, hY⟩ := lm_solo1 (nt := nt) (cl := cl) (se := se) (vd := vd) (lk := lk) (vy := vy) (en := en) (so := so) (lv := lv) (lw := lw) (ed := ed) (pa := pa) (re := re) hL hT (show k ≤ 600 by omega) ht C S K hdp (by omega)
      have B1 : ll_EB L ed1 := by
        rcases E1 with q | ⟨a, ha, q⟩
        · rw [q]; exact B
        · rw [q]; exact ll_EBa B hL ha L (Nat.le_refl _)
      obtain ⟨fp', fc', dp', hd', hc', hy', cy', ed', m, hm, S', B', gX, gY⟩ := ih (k + 1) fp1 fc1 dp1 hd1 hc1 hy1 cy1 ed1 (by omega) S1 K1 B1
      refine ⟨fp', fc', dp', hd', hc', hy', cy', ed', m, hm, S', B', fun post n hn hp => ?_, fun post n hn hp => ?_⟩
      · obtain ⟨n, rfl⟩ : ∃ m, n = m + 1 := ⟨n - 1, by omega⟩
        refine pk_lt 512 k (fun h => absurd h (by omega)) (fun _ => lx_isDone ht4 hdp (by omega) (fun h => absurd h (by omega)) (fun _ => br_t rfl ?_))
        exact hA _ (hX _ (nm_r (nI_1 k) (gX post n (by omega) hp)))
      · obtain ⟨n, rfl⟩ : ∃ m, n = m + 1 := ⟨n - 1, by omega⟩
        refine pk_le 513 k (fun h => absurd h (by omega)) (fun _ => And.intro ht1 (pk_le (e + 1) 0 (fun h => absurd h (by omega)) (fun _ => ?_) (by rw [c3]; exact hdp)))
        exact hY _ (nm_r (nI_1 k) (nm_r (nI_1 k) (gY post n (by omega) hp)))
theorem lm_alone {L T t : Nat} (hL : L ≤ 8) (hT : T ≤ 4) (ht : t < T) (C : ll_CI L op ar ln) (hen : ll_EN en) (S : ll_TS T ln fp fc dp) (B : ll_EB L ed) :
    ∃ fp' fc' dp' hd' hc' hy' cy' ed' m, m ≤ 513 ∧ ll_TS T ln fp' fc' dp' ∧ ll_EB L ed' ∧ (∀ (post : Int32 → SX → Prop), post (nI m) (nI L, nt, cl, se, vd, lk, op, ar, ln, en, so, lv, ed', pa, fp', fc', dp', hd', hc') → wpX_runAlone post (nI L, nt, cl, se, vd, lk, op, ar, ln, en, so, lv, ed, pa, fp, fc, dp, hd, hc) (nI t)) ∧ (∀ (post : SY → Prop), post (nI L, nt, cl, se, vy, 1, op, ar, ln, en, upd so t (nI m), ed', re, lw, hy', cy', fp', fc', dp') → wpY_soloRun post (nI L, nt, cl, se, vy, 1, op, ar, ln, en, so, ed, re, lw, hy, cy, fp, fc, dp) (nI t)) := by
  obtain ⟨p, hp8, he⟩ := hen t (by omega)
  obtain ⟨m0, hm0, hl, _⟩ := C p hp8
  obtain ⟨fp', fc', dp', hd', hc', hy', cy', ed', m, hm, S', B', gX, gY⟩ := lm_solo (nt := nt) (cl := cl) (se := se) (vd := vd) (lk := lk) (vy := vy) (en := en) (so := so) (lv := lv) (lw := lw) (pa := pa) (re := re) hL hT ht C 513 0 _ _ _ _ _ _ _ ed (by omega) (ll_TSs S ht hp8 hl hm0) (ll_SKf (hd := hd) (hc := hc) (hy := hy) (cy := cy) hL) B
  refine ⟨fp', fc', dp', hd', hc', hy', cy', ed', m, hm, S', B', fun post hp => ?_, fun post hp => ?_⟩
  · unfold wpX_runAlone
    exact lx_free hL (lx_start (by omega) he hp8 hl hm0 ⟨514, gX post 514 (by omega) hp⟩)
  · unfold wpY_soloRun
    exact ly_free (ly_start (by omega) he hp8 hl hm0 ⟨514, gY post 514 (by omega) hp⟩)
theorem lm_checks {L T : Nat} (hL : L ≤ 8) (hT : T ≤ 4) (C : ll_CI L op ar ln) (hen : ll_EN en) : ∀ (r k : Nat) (so fp fc dp hd hc hy cy ed : Nat → Int32), k + r = T → ll_TS T ln fp fc dp → ll_EB L ed → (∀ s, s < k → ∃ m, m ≤ 513 ∧ so s = nI m) →
    ∃ so' fp' fc' dp' hd' hc' hy' cy' ed', ll_TS T ln fp' fc' dp' ∧ ll_EB L ed' ∧ (∀ s, s < T → ∃ m, m ≤ 513 ∧ so' s = nI m) ∧ (∀ (post : Int32 → SX → Prop) (n : Nat), r < n → (∀ n', wX_check_14 post (n' + 1) (nI T) (nI L) (nI T) cl se vd lk op ar ln en so' lv ed' pa fp' fc' dp' hd' hc') → wX_check_14 post n (nI k) (nI L) (nI T) cl se vd lk op ar ln en so lv ed pa fp fc dp hd hc) ∧ (∀ (post : Int32 → SY → Prop) (n : Nat), r < n → (∀ n', wY_check_24 post (n' + 1) (nI T) (nI L) (nI T) cl se vy 1 op ar ln en so' ed' re lw hy' cy' fp' fc' dp') → wY_check_24 post n (nI k) (nI L) (nI T) cl se vy 1 op ar ln en so ed re lw hy cy fp fc dp) := by
  intro r
  induction r with
  | zero =>
    intro k so fp fc dp hd hc hy cy ed hk S B hso
    have e : k = T := by omega
    subst e
    refine ⟨so, fp, fc, dp, hd, hc, hy, cy, ed, S, B, hso, fun post n hn hp => ?_, fun post n hn hp => ?_⟩
    · obtain ⟨n, rfl⟩ : ∃ m, n = m + 1 := ⟨n - 1, by omega⟩
      exact hp n
    · obtain ⟨n, rfl⟩ : ∃ m, n = m + 1 := ⟨n - 1, by omega⟩
      exact hp n
  | succ r ih =>
    intro k so fp fc dp hd hc hy cy ed hk S B hso
    have c1 : (nI k).toNatClampNeg = k := nI_clamp (by omega)
    obtain ⟨fp1, fc1, dp1, hd1, hc1, hy1, cy1, ed1, m1, hm1, S1, B1, hX, hY⟩ := lm_alone (t := k) (nt := nI T) (cl := cl) (se := se) (vd := vd) (lk := lk) (vy := vy) (so := so) (lv := lv) (lw := lw) (pa := pa) (re := re) (hd := hd) (hc := hc) (hy := hy) (cy := cy) hL hT (by omega) C hen S B
    obtain ⟨so', fp', fc', dp', hd', hc', hy', cy', ed', S', B', hso', gX, gY⟩ := ih (k + 1) (upd so k (nI m1)) fp1 fc1 dp1 hd1 hc1 hy1 cy1 ed1 (by omega) S1 B1 (fun s hs => by
      by_cases e : s = k
      · subst e
        exact ⟨m1, hm1, pk_us⟩
      · rw [pk_un e]
        exact hso s (by omega))
    refine ⟨so', fp', fc', dp', hd', hc', hy', cy', ed', S', B', hso', fun post n hn hp => ?_, fun post n hn hp => ?_⟩
    · obtain ⟨n, rfl⟩ : ∃ m, n = m + 1 := ⟨n - 1, by omega⟩
      refine pk_le T k (fun h => absurd h (by omega)) (fun _ => hX _ ?_)
      exact And.intro (vp_in_nI (by omega) (by decide)) (nm_r (e' := upd so k (nI m1)) (by rw [c1]) (nm_r (nI_1 k) (gX post n (by omega) hp)))
    · obtain ⟨n, rfl⟩ : ∃ m, n = m + 1 := ⟨n - 1, by omega⟩
      refine pk_le T k (fun h => absurd h (by omega)) (fun _ => hY _ ?_)
      exact nm_r (nI_1 k) (gY post n (by omega) hp)
end
end
section
/-! X's paths, lowest cycle lock and levels -/
def ll_E (ed : Nat → Int32) (a b : Nat) : Prop := a < 8 ∧ b < 8 ∧ ¬ ed (a * 8 + b) = 0
def ll_cp (k : Nat) (f g : Nat → Int32) : Nat → Int32 := fun j => if j < k then f j else g j
def ll_J (L : Nat) (p0 : Nat → Int32) (f k j : Nat) (pa : Nat → Int32) : Prop :=
  ∀ a b, a < L → b < L → (¬ pa (a * 8 + b) = 0 ↔ (¬ p0 (a * 8 + b) = 0 ∨ (a = f ∧ b < j ∧ ¬ p0 (k * 8 + b) = 0)))
def ll_V (L : Nat) (E : Nat → Nat → Prop) (k f : Nat) (pa : Nat → Int32) : Prop :=
  (∀ a b, a < L → b < L → a < f → (¬ pa (a * 8 + b) = 0 ↔ gr_P E (k + 1) a b)) ∧ (∀ a b, a < L → b < L → f ≤ a → (¬ pa (a * 8 + b) = 0 ↔ gr_P E k a b))
/-- X's lowest cycle lock as its scan finds it -/
def ll_LO (L : Nat) (pa : Nat → Int32) (r : Int32) : Prop :=
  (r = -1 ∧ ∀ l, l < L → pa (l * 8 + l) = 0) ∨ (∃ l, l < L ∧ r = nI l ∧ ¬ pa (l * 8 + l) = 0 ∧ ∀ j, j < l → pa (j * 8 + j) = 0)
theorem gr_LIsub {E : Nat → Nat → Prop} {L r : Nat} {D D' : Nat → Nat → Prop} {lev : Nat → Nat} (h : gr_LI E L r D lev) (hD : ∀ x y, E x y → D' x y → D x y) : gr_LI E L r D' lev :=
  ⟨h.1, h.2.1, h.2.2.1, fun x y e hr d => h.2.2.2 x y e hr (hD x y e d)⟩
theorem ll_Edom {L : Nat} {ed : Nat → Int32} (h : ll_EB L ed) : ∀ a b, ll_E ed a b → a < L ∧ b < L := fun a b e => h.2 a b e.1 e.2.1 e.2.2
theorem ll_1n0 : ¬ (1 : Int32) = 0 := by decide
section
variable {nl nt cl se vd lk rc vy : Int32} {op ar ln en so lv lw ed pa re fp fc dp hd hc hy cy fp' fc' dp' : Nat → Int32}
theorem ll_cp_s (f g : Nat → Int32) (k : Nat) : upd (ll_cp k f g) k (f k) = ll_cp (k + 1) f g := by
  funext j
  by_cases e : j = k
  · rw [e, pk_us]
    exact (if_pos (by omega)).symm
  · rw [pk_un e]
    show (if j < k then f j else g j) = (if j < k + 1 then f j else g j)
    by_cases h : j < k
    · rw [if_pos h, if_pos (by omega)]
    · rw [if_neg h, if_neg (by omega)]
theorem ll_cp_0 (f g : Nat → Int32) : ll_cp 0 f g = g := by
  funext j
  exact if_neg (by omega)
theorem ll_cp_t {f g : Nat → Int32} {k j : Nat} (h : j < k) : ll_cp k f g j = f j := if_pos h
theorem lx_cp {post : SX → Prop} (B : ll_B ed) (hp : ∃ n, wX_findPaths_28 post n 0 nl nt cl se vd lk op ar ln en so lv ed (ll_cp 64 ed pa) fp fc dp hd hc) : ∀ (r n k : Nat), k + r = 64 → r < n → wX_findPaths_2 post nl nt cl se vd lk n (nI k) op ar ln en so lv ed (ll_cp k ed pa) fp fc dp hd hc := by
  intro r
  induction r with
  | zero =>
    intro n k hk hn
    obtain ⟨n, rfl⟩ : ∃ m, n = m + 1 := ⟨n - 1, by omega⟩
    have e : k = 64 := by omega
    subst e
    exact pk_le 64 64 (fun _ => hp) (fun h => absurd h (by omega))
  | succ r ih =>
    intro n k hk hn
    obtain ⟨n, rfl⟩ : ∃ m, n = m + 1 := ⟨n - 1, by omega⟩
    have c1 : (nI k).toNatClampNeg = k := nI_clamp (by omega)
    have q := ih n (k + 1) (by omega) (by omega)
    have hi : vp_in (nI k) 64 := vp_in_nI (by omega) (by decide)
    exact pk_le 64 k (fun h => absurd h (by omega)) (fun _ => And.intro hi ⟨hi, nm_r (e' := ll_cp (k + 1) ed pa) (by rw [c1, ll_bn (B k), ll_cp_s]) (nm_r (nI_1 k) q)⟩)
theorem lx_join {post : SX → Prop} {L f k : Nat} {p0 : Nat → Int32} (hL : L ≤ 8) (hf : f < L) (hk : k < L) (hp : ∀ pa', ll_J L p0 f k L pa' → post (nI L, nt, cl, se, vd, lk, op, ar, ln, en, so, lv, ed, pa', fp, fc, dp, hd, hc)) : ∀ (r n j : Nat) (pa : Nat → Int32), j + r = L → r < n → ll_J L p0 f k j pa → wX_joinPaths_2 post (nI f) (nI k) (nI L) nt cl se vd lk n (nI j) op ar ln en so lv ed pa fp fc dp hd hc := by
  intro r
  induction r with
  | zero =>
    intro n j pa hj hn I
    obtain ⟨n, rfl⟩ : ∃ m, n = m + 1 := ⟨n - 1, by omega⟩
    have e : j = L := by omega
    subst e
    exact pk_le j j (fun _ => hp pa I) (fun h => absurd h (by omega))
  | succ r ih =>
    intro n j pa hj hn I
    obtain ⟨n, rfl⟩ : ∃ m, n = m + 1 := ⟨n - 1, by omega⟩
    have c1 : (nI (k * 8 + j)).toNatClampNeg = k * 8 + j := nI_clamp (by omega)
    have c2 : (nI (f * 8 + j)).toNatClampNeg = f * 8 + j := nI_clamp (by omega)
    have hi : vp_in (nI (k * 8 + j)) 64 := vp_in_nI (by omega) (by decide)
    have hi2 : vp_in (nI (f * 8 + j)) 64 := vp_in_nI (by omega) (by decide)
    have hkj := I k j hk (by omega)
    refine pk_le L j (fun h => absurd h (by omega)) (fun _ => ?_)
    rw [ll_cel k j, ll_cel f j, c1, c2]
    refine And.intro hi ?_
    by_cases z : pa (k * 8 + j) = 0
    · refine br_t z (nm_r (nI_1 j) (ih n (j + 1) pa (by omega) (by omega) (fun a b ha hb => ?_)))
      rw [I a b ha hb]
      have hz : p0 (k * 8 + j) = 0 := by
        by_cases x : p0 (k * 8 + j) = 0
        · exact x
        · exact absurd z (hkj.mpr (Or.inl x))
      constructor
      · rintro (q | ⟨q1, q2, q3⟩)
        · exact Or.inl q
        · exact Or.inr ⟨q1, by omega, q3⟩
      · rintro (q | ⟨q1, q2, q3⟩)
        · exact Or.inl q
        · by_cases x : b = j
          · rw [x] at q3
            exact absurd hz q3
          · exact Or.inr ⟨q1, by omega, q3⟩
    · have hz : ¬ p0 (k * 8 + j) = 0 := by
        rcases hkj.mp z with q | ⟨_, q, _⟩
        · exact q
        · exact absurd q (by omega)
      refine br_f z ⟨hi2, nm_r (e' := upd pa (f * 8 + j) 1) (by rw [ll_b1]) (nm_r (nI_1 j) (ih n (j + 1) (upd pa (f * 8 + j) 1) (by omega) (by omega) (fun a b ha hb => ?_)))⟩
      by_cases x : a * 8 + b = f * 8 + j
      · have xa : a = f := by omega
        have xb : b = j := by omega
        rw [x, pk_us, xa, xb]
        exact ⟨fun _ => Or.inr ⟨rfl, by omega, hz⟩, fun _ => ll_1n0⟩
      · rw [pk_un x, I a b ha hb]
        constructor
        · rintro (q | ⟨q1, q2, q3⟩)
          · exact Or.inl q
          · exact Or.inr ⟨q1, by omega, q3⟩
        · rintro (q | ⟨q1, q2, q3⟩)
          · exact Or.inl q
          · exact Or.inr ⟨q1, by omega, q3⟩
theorem ll_Vs {L k f : Nat} {E : Nat → Nat → Prop} {p' : Nat → Int32} (hf : f < L) (hk : k < L) (I : ll_V L E k f pa) (hz : ¬ pa (f * 8 + k) = 0) (hJ : ll_J L pa f k L p') : ll_V L E k (f + 1) p' := by
  have hfk : gr_P E k f k := (I.2 f k hf hk (Nat.le_refl _)).mp hz
  have hrow : ∀ b, b < L → (¬ pa (k * 8 + b) = 0 ↔ gr_P E k k b) := by
    intro b hb
    by_cases x : k < f
    · rw [I.1 k b hk hb x]
      exact gr_row k b
    · exact I.2 k b hk hb (by omega)
  refine ⟨fun a b ha hb hlt => ?_, fun a b ha hb hle => ?_⟩
  · rw [hJ a b ha hb]
    by_cases x : a = f
    · subst x
      rw [I.2 a b ha hb (Nat.le_refl _), hrow b hb]
      constructor
      · rintro (q | ⟨_, _, q⟩)
        · exact Or.inl q
        · exact Or.inr ⟨hfk, q⟩
      · rintro (q | q)
        · exact Or.inl q
        · exact Or.inr ⟨rfl, hb, q.2⟩
    · rw [I.1 a b ha hb (by omega)]
      exact ⟨fun q => q.elim id (fun q => absurd q.1 x), Or.inl⟩
  · rw [hJ a b ha hb, I.2 a b ha hb (by omega)]
    exact ⟨fun q => q.elim id (fun q => absurd q.1 (by omega)), Or.inl⟩
theorem ll_Vn {L k f : Nat} {E : Nat → Nat → Prop} (hf : f < L) (hk : k < L) (I : ll_V L E k f pa) (hz : pa (f * 8 + k) = 0) : ll_V L E k (f + 1) pa := by
  have hfk : ¬ gr_P E k f k := fun q => (I.2 f k hf hk (Nat.le_refl _)).mpr q hz
  refine ⟨fun a b ha hb hlt => ?_, fun a b ha hb hle => I.2 a b ha hb (by omega)⟩
  by_cases x : a = f
  · subst x
    rw [I.2 a b ha hb (Nat.le_refl _)]
    exact ⟨Or.inl, fun q => q.elim id (fun q => absurd q.1 hfk)⟩
  · exact I.1 a b ha hb (by omega)
theorem lx_fp38 {post : SX → Prop} {L k : Nat} {E : Nat → Nat → Prop} {J : Int32 → Int32 → Int32 → Int32 → Int32 → Int32 → Int32 → (Nat → Int32) → (Nat → Int32) → (Nat → Int32) → (Nat → Int32) → (Nat → Int32) → (Nat → Int32) → (Nat → Int32) → (Nat → Int32) → (Nat → Int32) → (Nat → Int32) → (Nat → Int32) → (Nat → Int32) → (Nat → Int32) → Prop} (hL : L ≤ 8) (hk : k < L) (hJ : ∀ pa', ll_V L E k L pa' → J (nI (k + 1)) (nI L) nt cl se vd lk op ar ln en so lv ed pa' fp fc dp hd hc) : ∀ (r n f : Nat) (pa : Nat → Int32), f + r = L → r < n → ll_V L E k f pa → wX_findPaths_38 post J (nI k) n (nI f) (nI L) nt cl se vd lk op ar ln en so lv ed pa fp fc dp hd hc := by
  intro r
  induction r with
  | zero =>
    intro n f pa hf hn I
    obtain ⟨n, rfl⟩ : ∃ m, n = m + 1 := ⟨n - 1, by omega⟩
    have e : f = L := by omega
    subst e
    exact pk_le f f (fun _ => nm_r (nI_1 k) (hJ pa I)) (fun h => absurd h (by omega))
  | succ r ih =>
    intro n f pa hf hn I
    obtain ⟨n, rfl⟩ : ∃ m, n = m + 1 := ⟨n - 1, by omega⟩
    have c1 : (nI (f * 8 + k)).toNatClampNeg = f * 8 + k := nI_clamp (by omega)
    have hi : vp_in (nI (f * 8 + k)) 64 := vp_in_nI (by omega) (by decide)
    refine pk_le L f (fun h => absurd h (by omega)) (fun _ => ?_)
    rw [ll_cel f k, c1]
    refine And.intro hi ?_
    by_cases z : pa (f * 8 + k) = 0
    · exact br_t z (nm_r (nI_1 f) (ih n (f + 1) pa (by omega) (by omega) (ll_Vn (by omega) hk I z)))
    · refine br_f z ?_
      refine ⟨L + 1, lx_join (p0 := pa) hL (by omega) hk (fun p' hp' => ?_) L (L + 1) 0 pa (by omega) (by omega) (fun a b _ _ => ⟨Or.inl, fun q => q.elim id (fun q => absurd q.2.1 (by omega))⟩)⟩
      exact nm_r (nI_1 f) (ih n (f + 1) p' (by omega) (by omega) (ll_Vs (by omega) hk I z hp'))
theorem lx_fp28 {post : SX → Prop} {L : Nat} {E : Nat → Nat → Prop} (hL : L ≤ 8) (hp : ∀ pa', (∀ a b, a < L → b < L → (¬ pa' (a * 8 + b) = 0 ↔ gr_P E L a b)) → post (nI L, nt, cl, se, vd, lk, op, ar, ln, en, so, lv, ed, pa', fp, fc, dp, hd, hc)) : ∀ (r n k : Nat) (pa : Nat → Int32), k + r = L → r < n → (∀ a b, a < L → b < L → (¬ pa (a * 8 + b) = 0 ↔ gr_P E k a b)) → wX_findPaths_28 post n (nI k) (nI L) nt cl se vd lk op ar ln en so lv ed pa fp fc dp hd hc := by
  intro r
  induction r with
  | zero =>
    intro n k pa hk hn I
    obtain ⟨n, rfl⟩ : ∃ m, n = m + 1 := ⟨n - 1, by omega⟩
    have e : k = L := by omega
    subst e
    exact pk_le k k (fun _ => hp pa I) (fun h => absurd h (by omega))
  | succ r ih =>
    intro n k pa hk hn I
    obtain ⟨n, rfl⟩ : ∃ m, n = m + 1 := ⟨n - 1, by omega⟩
    refine pk_le L k (fun h => absurd h (by omega)) (fun _ => ?_)
    exact ⟨L + 1, lx_fp38 (E := E) hL (by omega) (fun p' I' => ih n (k + 1) p' (by omega) (by omega) (fun a b ha hb => I'.1 a b ha hb ha)) L (L + 1) 0 pa (by omega) (by omega) ⟨fun a b _ _ h => absurd h (by omega), fun a b ha hb _ => I a b ha hb⟩⟩
theorem lx_paths {post : SX → Prop} {L : Nat} (hL : L ≤ 8) (B : ll_EB L ed) (hp : ∀ pa', (∀ a b, a < L → b < L → (¬ pa' (a * 8 + b) = 0 ↔ gr_P (ll_E ed) L a b)) → post (nI L, nt, cl, se, vd, lk, op, ar, ln, en, so, lv, ed, pa', fp, fc, dp, hd, hc)) : wpX_findPaths post (nI L, nt, cl, se, vd, lk, op, ar, ln, en, so, lv, ed, pa, fp, fc, dp, hd, hc) := by
  have q := lx_cp (post := post) (nl := nI L) (nt := nt) (cl := cl) (se := se) (vd := vd) (lk := lk) (op := op) (ar := ar) (ln := ln) (en := en) (so := so) (lv := lv) (ed := ed) (pa := pa) (fp := fp) (fc := fc) (dp := dp) (hd := hd) (hc := hc) B.1 ⟨L + 1, lx_fp28 (E := ll_E ed) hL hp L (L + 1) 0 (ll_cp 64 ed pa) (by omega) (by omega) (fun a b ha hb => by
    rw [ll_cp_t (show a * 8 + b < 64 by omega)]
    exact ⟨fun q => ⟨by omega, by omega, q⟩, fun q => q.2.2⟩)⟩ 64 65 0 (by omega) (by omega)
  rw [ll_cp_0] at q
  exact ⟨65, q⟩
theorem lx_low2 {L : Nat} (hL : L ≤ 8) : ∀ (r k : Nat), k + r = L → (∀ j, j < k → pa (j * 8 + j) = 0) → ∃ x, ll_LO L pa x ∧ ∀ (post : Int32 → Prop) (n : Nat), r < n → post x → wX_findLowestCycleLock_2 post (nI L) nt cl se vd lk op ar ln en so lv ed pa fp fc dp hd hc n (nI k) := by
  intro r
  induction r with
  | zero =>
    intro k hk h
    have e : k = L := by omega
    subst e
    refine ⟨-1, Or.inl ⟨rfl, h⟩, fun post n hn hp => ?_⟩
    obtain ⟨n, rfl⟩ : ∃ m, n = m + 1 := ⟨n - 1, by omega⟩
    exact pk_le k k (fun _ => hp) (fun h => absurd h (by omega))
  | succ r ih =>
    intro k hk h
    have c1 : (nI (k * 8 + k)).toNatClampNeg = k * 8 + k := nI_clamp (by omega)
    have hi : vp_in (nI (k * 8 + k)) 64 := vp_in_nI (by omega) (by decide)
    by_cases z : pa (k * 8 + k) = 0
    · obtain ⟨x, h1, h2⟩ := ih (k + 1) (by omega) (lt_s h z)
      refine ⟨x, h1, fun post n hn hp => ?_⟩
      obtain ⟨n, rfl⟩ : ∃ m, n = m + 1 := ⟨n - 1, by omega⟩
      refine pk_le L k (fun h => absurd h (by omega)) (fun _ => ?_)
      rw [ll_cel k k, c1]
      exact And.intro hi (br_t z (nm_r (nI_1 k) (h2 post n (by omega) hp)))
    · refine ⟨nI k, Or.inr ⟨k, by omega, rfl, z, h⟩, fun post n hn hp => ?_⟩
      obtain ⟨n, rfl⟩ : ∃ m, n = m + 1 := ⟨n - 1, by omega⟩
      refine pk_le L k (fun h => absurd h (by omega)) (fun _ => ?_)
      rw [ll_cel k k, c1]
      exact And.intro hi (br_f z hp)
theorem lx_low {L : Nat} (hL : L ≤ 8) : ∃ x, ll_LO L pa x ∧ ∀ (post : Int32 → Prop), post x → wpX_findLowestCycleLock post (nI L, nt, cl, se, vd, lk, op, ar, ln, en, so, lv, ed, pa, fp, fc, dp, hd, hc) := by
  obtain ⟨x, h1, h2⟩ := lx_low2 (nt := nt) (cl := cl) (se := se) (vd := vd) (lk := lk) (op := op) (ar := ar) (ln := ln) (en := en) (so := so) (lv := lv) (ed := ed) (pa := pa) (fp := fp) (fc := fc) (dp := dp) (hd := hd) (hc := hc) hL L 0 (by omega) (fun j hj => absurd hj (by omega))
  exact ⟨x, h1, fun post hp => ⟨L + 1, h2 post (L + 1) (by omega) hp⟩⟩
theorem lx_raise2 {post : SX → Prop} {L q a l0 : Nat} (hL : L ≤ 8) (ha : a < L) (hE : ∀ x y, ll_E ed x y → x < L ∧ y < L) (hac : ∀ x, ¬ gr_P (ll_E ed) L x x) (hp : ∀ lv' lev', (∀ j, j < 8 → lv' j = nI (lev' j)) → gr_LI (ll_E ed) L q (fun x _ => x < a + 1) lev' → post (nI L, nt, cl, se, vd, lk, op, ar, ln, en, so, lv', ed, pa, fp, fc, dp, hd, hc)) : ∀ (r n b : Nat) (lv : Nat → Int32) (lev : Nat → Nat), b + r = L → r < n → (∀ j, j < 8 → lv j = nI (lev j)) → lev a = l0 → gr_LI (ll_E ed) L q (fun x y => x < a ∨ (x = a ∧ y < b)) lev → wX_raiseSuccessors_11 post (nI a) (nI (l0 + 1)) (nI L) nt cl se vd lk n (nI b) op ar ln en so lv ed pa fp fc dp hd hc := by
  intro r
  induction r with
  | zero =>
    intro n b lv lev hb hn hl h0 I
    obtain ⟨n, rfl⟩ : ∃ m, n = m + 1 := ⟨n - 1, by omega⟩
    have e : b = L := by omega
    subst e
    refine pk_le b b (fun _ => hp lv lev hl (gr_LIsub I (fun x y e d => ?_))) (fun h => absurd h (by omega))
    have := hE x y e
    show x < a ∨ (x = a ∧ y < b)
    omega
  | succ r ih =>
    intro n b lv lev hb hn hl h0 I
    obtain ⟨n, rfl⟩ : ∃ m, n = m + 1 := ⟨n - 1, by omega⟩
    have c1 : (nI (a * 8 + b)).toNatClampNeg = a * 8 + b := nI_clamp (by omega)
    have c2 : (nI b).toNatClampNeg = b := nI_clamp (by omega)
    have hi : vp_in (nI (a * 8 + b)) 64 := vp_in_nI (by omega) (by decide)
    have hi2 : vp_in (nI b) 8 := vp_in_nI (by omega) (by decide)
    have hD : ∀ x y, (x < a ∨ (x = a ∧ y < b + 1)) → (x < a ∨ (x = a ∧ y < b)) ∨ (x = a ∧ y = b) := by
      intro x y h
      omega
    have lb : lev b ≤ 8 := Nat.le_trans (I.1 b) (Nat.le_trans (gr_cle _ L) hL)
    have la : lev a ≤ 8 := Nat.le_trans (I.1 a) (Nat.le_trans (gr_cle _ L) hL)
    refine pk_le L b (fun h => absurd h (by omega)) (fun _ => ?_)
    rw [ll_cel a b, c1, c2, hl b (by omega)]
    refine And.intro hi ?_
    by_cases z : ed (a * 8 + b) = 0
    · exact br_t z (nm_r (nI_1 b) (ih n (b + 1) lv lev (by omega) (by omega) hl h0 (gr_LIno a b I (fun e => absurd z e.2.2) hD)))
    · have e : ll_E ed a b := ⟨by omega, by omega, z⟩
      refine br_f z ⟨hi2, pk_le (l0 + 1) (lev b) (fun h => ?_) (fun h => ?_)⟩
      · exact nm_r (nI_1 b) (ih n (b + 1) lv lev (by omega) (by omega) hl h0 (gr_LIno a b I (fun _ => by omega) hD))
      · have hne : a ≠ b := by
          intro x
          rw [← x] at e
          have := gr_Alt hE hac e
          omega
        refine ⟨hi2, nm_e (nm_r (nI_1 b) (ih n (b + 1) (upd lv b (nI (l0 + 1))) (fun j => if j = b then l0 + 1 else lev j) (by omega) (by omega) (fun j hj => ?_) ?_ ?_))⟩
        · by_cases x : j = b
          · rw [x, pk_us, if_pos rfl]
          · rw [pk_un x, if_neg x]
            exact hl j hj
        · show (if a = b then l0 + 1 else lev a) = l0
          rw [if_neg hne]
          exact h0
        · exact gr_LIup hE hac a b I e (by omega) hD _ (by rw [if_pos rfl, h0]) (fun j hj => if_neg hj)
theorem lx_raise {post : SX → Prop} {L q a : Nat} {lev : Nat → Nat} (hL : L ≤ 8) (ha : a < L) (hE : ∀ x y, ll_E ed x y → x < L ∧ y < L) (hac : ∀ x, ¬ gr_P (ll_E ed) L x x) (hl : ∀ j, j < 8 → lv j = nI (lev j)) (I : gr_LI (ll_E ed) L q (fun x _ => x < a) lev) (hp : ∀ lv' lev', (∀ j, j < 8 → lv' j = nI (lev' j)) → gr_LI (ll_E ed) L q (fun x _ => x < a + 1) lev' → post (nI L, nt, cl, se, vd, lk, op, ar, ln, en, so, lv', ed, pa, fp, fc, dp, hd, hc)) : wpX_raiseSuccessors post (nI L, nt, cl, se, vd, lk, op, ar, ln, en, so, lv, ed, pa, fp, fc, dp, hd, hc) (nI a) := by
  have c1 : (nI a).toNatClampNeg = a := nI_clamp (by omega)
  refine And.intro (vp_in_nI (by omega) (by decide)) (nm_r (e' := nI (lev a + 1)) (by rw [c1, hl a (by omega), nI_1]) ?_)
  exact ⟨L + 1, lx_raise2 hL ha hE hac hp L (L + 1) 0 lv lev (by omega) (by omega) hl rfl (gr_LIsub I (fun x y _ d => by
    rcases d with d | d
    · exact d
    · exact absurd d.2 (by omega)))⟩
theorem lx_inf12 {post : SX → Prop} {L q i : Nat} {J : Int32 → Int32 → Int32 → Int32 → Int32 → Int32 → Int32 → (Nat → Int32) → (Nat → Int32) → (Nat → Int32) → (Nat → Int32) → (Nat → Int32) → (Nat → Int32) → (Nat → Int32) → (Nat → Int32) → (Nat → Int32) → (Nat → Int32) → (Nat → Int32) → (Nat → Int32) → (Nat → Int32) → Prop} (hL : L ≤ 8) (hE : ∀ x y, ll_E ed x y → x < L ∧ y < L) (hac : ∀ x, ¬ gr_P (ll_E ed) L x x) (hJ : ∀ lv' lev', (∀ j, j < 8 → lv' j = nI (lev' j)) → gr_LI (ll_E ed) L (q + 1) (fun _ _ => False) lev' → J (nI (i + 1)) (nI L) nt cl se vd lk op ar ln en so lv' ed pa fp fc dp hd hc) : ∀ (r n a : Nat) (lv : Nat → Int32) (lev : Nat → Nat), a + r = L → r < n → (∀ j, j < 8 → lv j = nI (lev j)) → gr_LI (ll_E ed) L q (fun x _ => x < a) lev → wX_inferLevels_12 post J (nI i) n (nI a) (nI L) nt cl se vd lk op ar ln en so lv ed pa fp fc dp hd hc := by
  intro r
  induction r with
  | zero =>
    intro n a lv lev ha hn hl I
    obtain ⟨n, rfl⟩ : ∃ m, n = m + 1 := ⟨n - 1, by omega⟩
    have e : a = L := by omega
    subst e
    exact pk_le a a (fun _ => nm_r (nI_1 i) (hJ lv lev hl (gr_LInext I (fun x y e => (hE x y e).1)))) (fun h => absurd h (by omega))
  | succ r ih =>
    intro n a lv lev ha hn hl I
    obtain ⟨n, rfl⟩ : ∃ m, n = m + 1 := ⟨n - 1, by omega⟩
    refine pk_le L a (fun h => absurd h (by omega)) (fun _ => ?_)
    exact lx_raise hL (by omega) hE hac hl I (fun lv' lev' hl' I' => nm_r (nI_1 a) (ih n (a + 1) lv' lev' (by omega) (by omega) hl' I'))
theorem lx_inf2 {post : SX → Prop} {L : Nat} (hL : L ≤ 8) (hE : ∀ x y, ll_E ed x y → x < L ∧ y < L) (hac : ∀ x, ¬ gr_P (ll_E ed) L x x) (hp : ∀ lv' lev', (∀ j, j < 8 → lv' j = nI (lev' j)) → gr_LI (ll_E ed) L (L - 1) (fun _ _ => False) lev' → post (nI L, nt, cl, se, vd, lk, op, ar, ln, en, so, lv', ed, pa, fp, fc, dp, hd, hc)) : ∀ (r n q : Nat) (lv : Nat → Int32) (lev : Nat → Nat), q + 1 + r = L → r < n → (∀ j, j < 8 → lv j = nI (lev j)) → gr_LI (ll_E ed) L q (fun _ _ => False) lev → wX_inferLevels_2 post n (nI (q + 1)) (nI L) nt cl se vd lk op ar ln en so lv ed pa fp fc dp hd hc := by
  intro r
  induction r with
  | zero =>
    intro n q lv lev hq hn hl I
    obtain ⟨n, rfl⟩ : ∃ m, n = m + 1 := ⟨n - 1, by omega⟩
    have e : q + 1 = L := by omega
    subst e
    exact pk_le (q + 1) (q + 1) (fun _ => hp lv lev hl I) (fun h => absurd h (by omega))
  | succ r ih =>
    intro n q lv lev hq hn hl I
    obtain ⟨n, rfl⟩ : ∃ m, n = m + 1 := ⟨n - 1, by omega⟩
    refine pk_le L (q + 1) (fun h => absurd h (by omega)) (fun _ => ?_)
    exact ⟨L + 1, lx_inf12 (q := q) hL hE hac (fun lv' lev' hl' I' => ih n (q + 1) lv' lev' (by omega) (by omega) hl' I') L (L + 1) 0 lv lev (by omega) (by omega) hl (gr_LIsub I (fun _ _ _ d => absurd d (by omega)))⟩
theorem lx_infer {post : SX → Prop} {L : Nat} (h2 : 2 ≤ L) (hL : L ≤ 8) (hE : ∀ x y, ll_E ed x y → x < L ∧ y < L) (hac : ∀ x, ¬ gr_P (ll_E ed) L x x) (hl : ∀ j, j < 8 → lv j = 0) (hp : ∀ lv' lev', (∀ j, j < 8 → lv' j = nI (lev' j)) → gr_LI (ll_E ed) L (L - 1) (fun _ _ => False) lev' → post (nI L, nt, cl, se, vd, lk, op, ar, ln, en, so, lv', ed, pa, fp, fc, dp, hd, hc)) : wpX_inferLevels post (nI L, nt, cl, se, vd, lk, op, ar, ln, en, so, lv, ed, pa, fp, fc, dp, hd, hc) :=
  ⟨L + 1, lx_inf2 hL hE hac hp (L - 1) (L + 1) 0 lv (fun _ => 0) (by omega) (by omega) hl (gr_LI0 hE hac (fun _ => rfl))⟩
theorem lx_long0 {post : Int32 → Prop} {T : Nat} (hT : T ≤ 4) (hs : ∀ s, s < T → ∃ m, m ≤ 512 ∧ so s = nI m) (hp : post 0) : ∀ (r n k : Nat), k + r = T → r < n → wX_someSoloRunIsLong_2 post nl (nI T) cl se vd lk op ar ln en so lv ed pa fp fc dp hd hc n (nI k) := by
  intro r
  induction r with
  | zero =>
    intro n k hk hn
    obtain ⟨n, rfl⟩ : ∃ m, n = m + 1 := ⟨n - 1, by omega⟩
    have e : k = T := by omega
    subst e
    exact pk_le k k (fun _ => hp) (fun h => absurd h (by omega))
  | succ r ih =>
    intro n k hk hn
    obtain ⟨n, rfl⟩ : ∃ m, n = m + 1 := ⟨n - 1, by omega⟩
    obtain ⟨m, hm, e⟩ := hs k (by omega)
    have c1 : (nI k).toNatClampNeg = k := nI_clamp (by omega)
    exact pk_le T k (fun h => absurd h (by omega)) (fun _ => And.intro (vp_in_nI (by omega) (by decide)) (pk_le m 512 (fun _ => nm_r (nI_1 k) (ih n (k + 1) (by omega) (by omega))) (fun h => absurd h (by omega)) (by rw [c1]; exact e)))
theorem lx_long1 {post : Int32 → Prop} {T : Nat} (hT : T ≤ 4) (hs : ∀ s, s < T → ∃ m, m ≤ 513 ∧ so s = nI m) (hp : post 1) : ∀ (r n k : Nat), k + r = T → r < n → (∃ s, k ≤ s ∧ s < T ∧ so s = nI 513) → wX_someSoloRunIsLong_2 post nl (nI T) cl se vd lk op ar ln en so lv ed pa fp fc dp hd hc n (nI k) := by
  intro r
  induction r with
  | zero =>
    intro n k hk hn h
    obtain ⟨s, h1, h2, _⟩ := h
    omega
  | succ r ih =>
    intro n k hk hn h
    obtain ⟨n, rfl⟩ : ∃ m, n = m + 1 := ⟨n - 1, by omega⟩
    obtain ⟨m, hm, e⟩ := hs k (by omega)
    have c1 : (nI k).toNatClampNeg = k := nI_clamp (by omega)
    refine pk_le T k (fun h => absurd h (by omega)) (fun _ => And.intro (vp_in_nI (by omega) (by decide)) (pk_le m 512 (fun hm' => nm_r (nI_1 k) (ih n (k + 1) (by omega) (by omega) ?_)) (fun _ => hp) (by rw [c1]; exact e)))
    obtain ⟨s, h1, h2, h3⟩ := h
    have x : s ≠ k := by
      intro x
      rw [x, e, nI_eq (by omega) (by omega)] at h3
      omega
    exact ⟨s, by omega, h2, h3⟩
theorem lx_clr {post : SX → Prop} (hp : post (nl, nt, cl, se, vd, lk, op, ar, ln, en, so, lv, ll_fl 64 ed 0, pa, fp, fc, dp, hd, hc)) : ∀ (r n k : Nat), k + r = 64 → r < n → wX_clearEdges_2 post nl nt cl se vd lk n (nI k) op ar ln en so lv (ll_fl k ed 0) pa fp fc dp hd hc := by
  intro r
  induction r with
  | zero =>
    intro n k hk hn
    obtain ⟨n, rfl⟩ : ∃ m, n = m + 1 := ⟨n - 1, by omega⟩
    have e : k = 64 := by omega
    subst e
    exact pk_le 64 64 (fun _ => hp) (fun h => absurd h (by omega))
  | succ r ih =>
    intro n k hk hn
    obtain ⟨n, rfl⟩ : ∃ m, n = m + 1 := ⟨n - 1, by omega⟩
    have c1 : (nI k).toNatClampNeg = k := nI_clamp (by omega)
    have q := ih n (k + 1) (by omega) (by omega)
    have hi : vp_in (nI k) 64 := vp_in_nI (by omega) (by decide)
    exact pk_le 64 k (fun h => absurd h (by omega)) (fun _ => And.intro hi (nm_r (e' := ll_fl (k + 1) ed 0) (by rw [c1, ll_b0, ll_fl_s]) (nm_r (nI_1 k) q)))
theorem lx_clear {post : SX → Prop} (hp : post (nl, nt, cl, se, vd, lk, op, ar, ln, en, so, lv, ll_fl 64 ed 0, pa, fp, fc, dp, hd, hc)) : wpX_clearEdges post (nl, nt, cl, se, vd, lk, op, ar, ln, en, so, lv, ed, pa, fp, fc, dp, hd, hc) := by
  have q := lx_clr hp 64 65 0 (by omega) (by omega)
  rw [ll_fl_0] at q
  exact ⟨65, q⟩
theorem lx_verL {post : SX → Prop} {T : Nat} (hT : T ≤ 4) (hs : ∀ s, s < T → ∃ m, m ≤ 513 ∧ so s = nI m) (h : ∃ s, s < T ∧ so s = nI 513) (hp : post (nl, nI T, cl, se, 2, lk, op, ar, ln, en, so, lv, ll_fl 64 ed 0, pa, fp, fc, dp, hd, hc)) : wpX_decideVerdict post (nl, nI T, cl, se, vd, lk, op, ar, ln, en, so, lv, ed, pa, fp, fc, dp, hd, hc) := by
  unfold wpX_decideVerdict
  obtain ⟨s, h1, h2⟩ := h
  refine ⟨T + 1, lx_long1 hT hs ?_ T (T + 1) 0 (by omega) (by omega) ⟨s, by omega, h1, h2⟩⟩
  refine br_f ll_1n0 ?_
  exact lx_clear hp
theorem lx_verN {post : SX → Prop} {L T : Nat} (h2 : 2 ≤ L) (hL : L ≤ 8) (hT : T ≤ 4) (hs : ∀ s, s < T → ∃ m, m ≤ 512 ∧ so s = nI m) (B : ll_EB L ed) (hl : ∀ j, j < 8 → lv j = 0)
    (hpC : ∀ pa' l, l < L → gr_P (ll_E ed) L l l → (∀ j, j < l → ¬ gr_P (ll_E ed) L j j) → post (nI L, nI T, cl, se, 1, nI l, op, ar, ln, en, so, lv, ed, pa', fp, fc, dp, hd, hc))
    (hpA : ∀ pa' lv' lev', (∀ x, ¬ gr_P (ll_E ed) L x x) → (∀ j, j < 8 → lv' j = nI (lev' j)) → gr_LI (ll_E ed) L (L - 1) (fun _ _ => False) lev' → post (nI L, nI T, cl, se, 0, -1, op, ar, ln, en, so, lv', ed, pa', fp, fc, dp, hd, hc)) : wpX_decideVerdict post (nI L, nI T, cl, se, vd, lk, op, ar, ln, en, so, lv, ed, pa, fp, fc, dp, hd, hc) := by
  unfold wpX_decideVerdict
  refine ⟨T + 1, lx_long0 hT hs (br_t rfl ?_) T (T + 1) 0 (by omega) (by omega)⟩
  refine lx_paths hL B (fun pa' I => ?_)
  obtain ⟨x, hx, hw⟩ := lx_low (nt := nI T) (cl := cl) (se := se) (vd := vd) (lk := lk) (op := op) (ar := ar) (ln := ln) (en := en) (so := so) (lv := lv) (ed := ed) (pa := pa') (fp := fp) (fc := fc) (dp := dp) (hd := hd) (hc := hc) hL
  refine hw _ ?_
  rcases hx with ⟨rfl, hx⟩ | ⟨l, hl', rfl, h3, h4⟩
  · have hac : ∀ x, ¬ gr_P (ll_E ed) L x x := by
      intro x q
      have hx' := (gr_dom (ll_Edom B) L q).1
      exact (I x x hx' hx').mpr q (hx x hx')
    exact br_t rfl (lx_infer h2 hL (ll_Edom B) hac hl (fun lv' lev' q1 q2 => hpA pa' lv' lev' hac q1 q2))
  · exact br_f (fun q => ll_m1 l (by omega) q.symm) (hpC pa' l hl' ((I l l hl' hl').mp h3) (fun j hj q => (I j j (by omega) (by omega)).mpr q (h4 j hj)))
end
end
section
/-! the reference's reach and levels -/
def ll_Q (L : Nat) (E R0 : Nat → Nat → Prop) (i : Nat) (re : Nat → Int32) : Prop :=
  (∀ a b, R0 a b → ll_E re a b) ∧ (∀ a b, ll_E re a b → gr_P E L a b) ∧ (∀ a m j, a < 8 → m < 8 → j < 8 → a * 64 + m * 8 + j < i → R0 a m → E m j → ll_E re a j)
theorem ll_s6 {i : Nat} (h : i < 512) : nI i >>> ((6 : Int32) &&& 31) = nI (i / 64) := pk_shrN (by omega) _ 6 (by decide)
theorem ll_s3 {i : Nat} (h : i < 512) : nI i >>> ((3 : Int32) &&& 31) = nI (i / 8) := pk_shrN (by omega) _ 3 (by decide)
theorem ll_a7 {i : Nat} (h : i < 512) : nI i &&& 7 = nI (i % 8) := pk_andN (by omega) 3 (by decide)
section
variable {nl nt cl se vd lk rc vy : Int32} {op ar ln en so lv lw ed pa re fp fc dp hd hc hy cy fp' fc' dp' : Nat → Int32}
theorem ly_cp {post : Int32 → SY → Prop} (B : ll_B ed) (hp : ∃ n, wY_check_141 post nl nt cl se vd rc n 0 op ar ln en so ed (ll_cp 64 ed re) lv hd hc fp fc dp) : ∀ (r n k : Nat), k + r = 64 → r < n → wY_check_115 post nl nt cl se vd rc n (nI k) op ar ln en so ed (ll_cp k ed re) lv hd hc fp fc dp := by
  intro r
  induction r with
  | zero =>
    intro n k hk hn
    obtain ⟨n, rfl⟩ : ∃ m, n = m + 1 := ⟨n - 1, by omega⟩
    have e : k = 64 := by omega
    subst e
    exact pk_le 64 64 (fun _ => hp) (fun h => absurd h (by omega))
  | succ r ih =>
    intro n k hk hn
    obtain ⟨n, rfl⟩ : ∃ m, n = m + 1 := ⟨n - 1, by omega⟩
    have c1 : (nI k).toNatClampNeg = k := nI_clamp (by omega)
    have q := ih n (k + 1) (by omega) (by omega)
    have hi : vp_in (nI k) 64 := vp_in_nI (by omega) (by decide)
    exact pk_le 64 k (fun h => absurd h (by omega)) (fun _ => And.intro hi ⟨hi, nm_r (e' := ll_cp (k + 1) ed re) (by rw [c1, ll_bn (B k), ll_cp_s]) (nm_r (nI_1 k) q)⟩)
theorem ll_Qn {L i : Nat} {E R0 : Nat → Nat → Prop} (I : ll_Q L E R0 i re) (h : ∀ a m j, a < 8 → m < 8 → j < 8 → a * 64 + m * 8 + j = i → R0 a m → E m j → ll_E re a j) : ll_Q L E R0 (i + 1) re := by
  refine ⟨I.1, I.2.1, fun a m j ha hm hj hlt r0 e => ?_⟩
  by_cases x : a * 64 + m * 8 + j = i
  · exact h a m j ha hm hj x r0 e
  · exact I.2.2 a m j ha hm hj (by omega) r0 e
theorem ll_Eu {x y : Nat} (hx : x < 8) (hy : y < 8) {a b : Nat} : ll_E (upd re (x * 8 + y) 1) a b ↔ (ll_E re a b ∨ (a = x ∧ b = y)) := by
  constructor
  · intro h
    by_cases e : a * 8 + b = x * 8 + y
    · have := h.1
      have := h.2.1
      exact Or.inr ⟨by omega, by omega⟩
    · refine Or.inl ⟨h.1, h.2.1, ?_⟩
      have q := h.2.2
      rw [pk_un e] at q
      exact q
  · rintro (h | ⟨rfl, rfl⟩)
    · refine ⟨h.1, h.2.1, ?_⟩
      by_cases e : a * 8 + b = x * 8 + y
      · rw [e, pk_us]; exact ll_1n0
      · rw [pk_un e]; exact h.2.2
    · exact ⟨hx, hy, by rw [pk_us]; exact ll_1n0⟩
theorem ll_Qu {L i x m y : Nat} {E R0 : Nat → Nat → Prop} (hE : ∀ a b, E a b → a < L ∧ b < L) (hx : x < 8) (hy : y < 8) (I : ll_Q L E R0 i re) (h1 : ll_E re x m) (h2 : E m y) (hi : i = x * 64 + m * 8 + y) : ll_Q L E R0 (i + 1) (upd re (x * 8 + y) 1) := by
  refine ⟨fun a b r0 => (ll_Eu hx hy).mpr (Or.inl (I.1 a b r0)), fun a b e => ?_, fun a m' j ha hm hj hlt r0 e => ?_⟩
  · rcases (ll_Eu hx hy).mp e with q | ⟨rfl, rfl⟩
    · exact I.2.1 a b q
    · exact gr_trans L (hE m b h2).1 (I.2.1 a m h1) (gr_base L h2)
  · by_cases z : a * 64 + m' * 8 + j = i
    · have := h1.2.1
      exact (ll_Eu hx hy).mpr (Or.inr ⟨by omega, by omega⟩)
    · exact (ll_Eu hx hy).mpr (Or.inl (I.2.2 a m' j ha hm hj (by omega) r0 e))
theorem ly_149 {post : Int32 → SY → Prop} {L q : Nat} {R0 : Nat → Nat → Prop} {J : Int32 → (Nat → Int32) → (Nat → Int32) → (Nat → Int32) → (Nat → Int32) → (Nat → Int32) → (Nat → Int32) → (Nat → Int32) → (Nat → Int32) → (Nat → Int32) → (Nat → Int32) → (Nat → Int32) → (Nat → Int32) → (Nat → Int32) → Prop} (hE : ∀ a b, ll_E ed a b → a < L ∧ b < L) (hJ : ∀ re', ll_Q L (ll_E ed) R0 512 re' → J (nI (q + 1)) op ar ln en so ed re' lv hd hc fp fc dp) : ∀ (r n i : Nat) (re : Nat → Int32), i + r = 512 → r < n → ll_Q L (ll_E ed) R0 i re → wY_check_149 post J (nI q) nl nt cl se vd rc n (nI i) op ar ln en so ed re lv hd hc fp fc dp := by
  intro r
  induction r with
  | zero =>
    intro n i re hi hn I
    obtain ⟨n, rfl⟩ : ∃ m, n = m + 1 := ⟨n - 1, by omega⟩
    have e : i = 512 := by omega
    subst e
    exact pk_le 512 512 (fun _ => nm_r (nI_1 q) (hJ re I)) (fun h => absurd h (by omega))
  | succ r ih =>
    intro n i re hi hn I
    obtain ⟨n, rfl⟩ : ∃ m, n = m + 1 := ⟨n - 1, by omega⟩
    obtain ⟨x, m, y, hx, hm, hy, rfl⟩ : ∃ x m y, x < 8 ∧ m < 8 ∧ y < 8 ∧ i = x * 64 + m * 8 + y := ⟨i / 64, i / 8 % 8, i % 8, by omega, by omega, by omega, by omega⟩
    have e1 : nI (x * 64 + m * 8 + y) >>> ((6 : Int32) &&& 31) = nI x := (ll_s6 (by omega)).trans (congrArg nI (by omega))
    have e2 : (nI (x * 64 + m * 8 + y) >>> ((3 : Int32) &&& 31)) &&& 7 = nI m := by
      rw [ll_s3 (by omega), ll_a7 (by omega)]
      exact congrArg nI (by omega)
    have e3 : nI (x * 64 + m * 8 + y) &&& 7 = nI y := (ll_a7 (by omega)).trans (congrArg nI (by omega))
    have c1 : (nI (x * 8 + m)).toNatClampNeg = x * 8 + m := nI_clamp (by omega)
    have c2 : (nI (m * 8 + y)).toNatClampNeg = m * 8 + y := nI_clamp (by omega)
    have c3 : (nI (x * 8 + y)).toNatClampNeg = x * 8 + y := nI_clamp (by omega)
    refine pk_le 512 (x * 64 + m * 8 + y) (fun h => absurd h (by omega)) (fun _ => nm_r e1 (nm_r e2 (nm_r e3 ?_)))
    rw [ll_cel x m, ll_cel m y, ll_cel x y, c1, c2, c3]
    refine ⟨vp_in_nI (by omega) (by decide), ?_⟩
    by_cases z : re (x * 8 + m) = 0
    · refine br_t z (nm_r (nI_1 _) (ih n (x * 64 + m * 8 + y + 1) re (by omega) (by omega) (ll_Qn I (fun a m' j ha hm' hj e r0 _ => ?_))))
      have xa : a = x := by omega
      have xm : m' = m := by omega
      rw [xa, xm] at r0
      exact absurd z (I.1 x m r0).2.2
    · refine br_f z ⟨vp_in_nI (by omega) (by decide), ?_⟩
      by_cases z2 : ed (m * 8 + y) = 0
      · refine br_t z2 (nm_r (nI_1 _) (ih n (x * 64 + m * 8 + y + 1) re (by omega) (by omega) (ll_Qn I (fun a m' j ha hm' hj e _ r1 => ?_))))
        have xm : m' = m := by omega
        have xy : j = y := by omega
        rw [xm, xy] at r1
        exact absurd z2 r1.2.2
      · exact br_f z2 ⟨vp_in_nI (by omega) (by decide), nm_r (e' := upd re (x * 8 + y) 1) (by rw [ll_b1]) (nm_r (nI_1 _) (ih n (x * 64 + m * 8 + y + 1) _ (by omega) (by omega) (ll_Qu hE hx hy I ⟨hx, hm, z⟩ ⟨hm, hy, z2⟩ rfl)))⟩
theorem ly_141 {post : Int32 → SY → Prop} {L : Nat} (hL : L ≤ 8) (hE : ∀ a b, ll_E ed a b → a < L ∧ b < L) (hp : ∀ re', (∀ a b, a < 8 → b < 8 → (¬ re' (a * 8 + b) = 0 ↔ gr_P (ll_E ed) L a b)) → ∃ n, wY_check_241 post nl nt cl se rc op ar ln en so ed re' lv hd hc fp fc dp n 0 0) : ∀ (r n q : Nat) (re : Nat → Int32), q + r = 8 → r < n → (∀ a b, ll_E ed a b → ll_E re a b) → (∀ a b, ll_E re a b → gr_P (ll_E ed) L a b) → gr_done (ll_E ed) L (ll_E re) q → wY_check_141 post nl nt cl se vd rc n (nI q) op ar ln en so ed re lv hd hc fp fc dp := by
  intro r
  induction r with
  | zero =>
    intro n q re hq hn h1 h2 h3
    obtain ⟨n, rfl⟩ : ∃ m, n = m + 1 := ⟨n - 1, by omega⟩
    have e : q = 8 := by omega
    subst e
    exact pk_le 8 8 (fun _ => hp re (fun a b ha hb => ⟨fun z => h2 a b ⟨ha, hb, z⟩, fun z => (gr_done8 h3 a b ha z).2.2⟩)) (fun h => absurd h (by omega))
  | succ r ih =>
    intro n q re hq hn h1 h2 h3
    obtain ⟨n, rfl⟩ : ∃ m, n = m + 1 := ⟨n - 1, by omega⟩
    refine pk_le 8 q (fun h => absurd h (by omega)) (fun _ => ?_)
    refine ⟨513, ly_149 (R0 := ll_E re) hE (fun re' I => ?_) 512 513 0 re (by omega) (by omega) ⟨fun _ _ z => z, h2, fun _ _ _ _ _ _ z => absurd z (by omega)⟩⟩
    refine ih n (q + 1) re' (by omega) (by omega) (fun a b z => I.1 a b (h1 a b z)) I.2.1 ?_
    refine gr_doneS (R := ll_E re) (fun a b z => ⟨z.1, z.2.1⟩) h3 h1 I.1 (fun i m j z1 z2 => ?_)
    have := z1.1
    have := z1.2.1
    have := z2.2.1
    exact I.2.2 i m j z1.1 z1.2.1 z2.2.1 (by omega) z1 z2
theorem ly_reach {post : Int32 → SY → Prop} {L : Nat} (hL : L ≤ 8) (B : ll_EB L ed) (hp : ∀ re', (∀ a b, a < 8 → b < 8 → (¬ re' (a * 8 + b) = 0 ↔ gr_P (ll_E ed) L a b)) → ∃ n, wY_check_241 post nl nt cl se rc op ar ln en so ed re' lv hd hc fp fc dp n 0 0) : ∃ n, wY_check_115 post nl nt cl se vd rc n 0 op ar ln en so ed re lv hd hc fp fc dp := by
  have hcp : ∀ a b, ll_E (ll_cp 64 ed re) a b ↔ ll_E ed a b := by
    intro a b
    constructor
    · intro h
      have h1 := h.1
      have h2 := h.2.1
      have h3 := h.2.2
      rw [ll_cp_t (by omega)] at h3
      exact ⟨h1, h2, h3⟩
    · intro h
      have h1 := h.1
      have h2 := h.2.1
      exact ⟨h1, h2, by rw [ll_cp_t (by omega)]; exact h.2.2⟩
  have q := ly_cp (post := post) (nl := nl) (nt := nt) (cl := cl) (se := se) (vd := vd) (rc := rc) (op := op) (ar := ar) (ln := ln) (en := en) (so := so) (ed := ed) (re := re) (lv := lv) (hd := hd) (hc := hc) (fp := fp) (fc := fc) (dp := dp) B.1 ⟨9, ly_141 hL (ll_Edom B) hp 8 9 0 (ll_cp 64 ed re) (by omega) (by omega) (fun a b z => (hcp a b).mpr z) (fun a b z => gr_base L ((hcp a b).mp z)) (gr_done0 L (fun a b z => ⟨z.1, z.2.1⟩) (fun a b z => (hcp a b).mpr z))⟩ 64 65 0 (by omega) (by omega)
  rw [ll_cp_0] at q
  exact ⟨65, q⟩
theorem ly_241a {post : Int32 → SY → Prop} (h : ∀ l, l < 8 → re (l * 8 + l) = 0) (hp : ∃ n, wY_check_281 post nl nt cl se 0 rc n 0 op ar ln en so ed re lv hd hc fp fc dp) : ∀ (r n k : Nat), k + r = 8 → r < n → wY_check_241 post nl nt cl se rc op ar ln en so ed re lv hd hc fp fc dp n (nI k) 0 := by
  intro r
  induction r with
  | zero =>
    intro n k hk hn
    obtain ⟨n, rfl⟩ : ∃ m, n = m + 1 := ⟨n - 1, by omega⟩
    have e : k = 8 := by omega
    subst e
    exact pk_le 8 8 (fun _ => br_t rfl hp) (fun h => absurd h (by omega))
  | succ r ih =>
    intro n k hk hn
    obtain ⟨n, rfl⟩ : ∃ m, n = m + 1 := ⟨n - 1, by omega⟩
    have c1 : (nI (k * 8 + k)).toNatClampNeg = k * 8 + k := nI_clamp (by omega)
    refine pk_le 8 k (fun h => absurd h (by omega)) (fun _ => ?_)
    rw [ll_cel k k, c1]
    exact And.intro (vp_in_nI (by omega) (by decide)) (br_t (h k (by omega)) (nm_r (nI_1 k) (ih n (k + 1) (by omega) (by omega))))
theorem ly_241c {post : Int32 → SY → Prop} (hp : wY_check_362 post nl nt cl se 1 rc op ar ln en so ed re lv hd hc fp fc dp) : ∀ (r n k : Nat) (v : Int32), k + r = 8 → r < n → (v = 1 ∨ ∃ l, k ≤ l ∧ l < 8 ∧ ¬ re (l * 8 + l) = 0) → wY_check_241 post nl nt cl se rc op ar ln en so ed re lv hd hc fp fc dp n (nI k) v := by
  intro r
  induction r with
  | zero =>
    intro n k v hk hn h
    obtain ⟨n, rfl⟩ : ∃ m, n = m + 1 := ⟨n - 1, by omega⟩
    have e : k = 8 := by omega
    subst e
    have hv : v = 1 := by
      rcases h with h | ⟨l, h1, h2, _⟩
      · exact h
      · omega
    subst hv
    exact pk_le 8 8 (fun _ => br_f ll_1n0 hp) (fun h => absurd h (by omega))
  | succ r ih =>
    intro n k v hk hn h
    obtain ⟨n, rfl⟩ : ∃ m, n = m + 1 := ⟨n - 1, by omega⟩
    have c1 : (nI (k * 8 + k)).toNatClampNeg = k * 8 + k := nI_clamp (by omega)
    refine pk_le 8 k (fun h => absurd h (by omega)) (fun _ => ?_)
    rw [ll_cel k k, c1]
    refine And.intro (vp_in_nI (by omega) (by decide)) ?_
    by_cases z : re (k * 8 + k) = 0
    · refine br_t z (nm_r (nI_1 k) (ih n (k + 1) v (by omega) (by omega) ?_))
      rcases h with h | ⟨l, h1, h2, h3⟩
      · exact Or.inl h
      · have x : l ≠ k := fun x => h3 (by rw [x]; exact z)
        exact Or.inr ⟨l, by omega, h2, h3⟩
    · exact br_f z (nm_r (nI_1 k) (ih n (k + 1) 1 (by omega) (by omega) (Or.inl rfl)))
theorem ly_289 {post : Int32 → SY → Prop} {L q i0 : Nat} {J : Int32 → (Nat → Int32) → (Nat → Int32) → (Nat → Int32) → (Nat → Int32) → (Nat → Int32) → (Nat → Int32) → (Nat → Int32) → (Nat → Int32) → (Nat → Int32) → (Nat → Int32) → (Nat → Int32) → (Nat → Int32) → (Nat → Int32) → Prop} (hL : L ≤ 8) (hE : ∀ a b, ll_E ed a b → a < L ∧ b < L) (hac : ∀ x, ¬ gr_P (ll_E ed) L x x) (hJ : ∀ lv' lev', (∀ j, j < 8 → lv' j = nI (lev' j)) → gr_LI (ll_E ed) L (q + 1) (fun _ _ => False) lev' → J (nI (i0 + 1)) op ar ln en so ed re lv' hd hc fp fc dp) : ∀ (r n i : Nat) (lv : Nat → Int32) (lev : Nat → Nat), i + r = 64 → r < n → (∀ j, j < 8 → lv j = nI (lev j)) → gr_LI (ll_E ed) L q (fun x y => x * 8 + y < i) lev → wY_check_289 post J (nI i0) nl nt cl se vd rc n (nI i) op ar ln en so ed re lv hd hc fp fc dp := by
  intro r
  induction r with
  | zero =>
    intro n i lv lev hi hn hl I
    obtain ⟨n, rfl⟩ : ∃ m, n = m + 1 := ⟨n - 1, by omega⟩
    have e : i = 64 := by omega
    subst e
    exact pk_le 64 64 (fun _ => nm_r (nI_1 i0) (hJ lv lev hl (gr_LInext I (fun x y e => by
      have := e.1
      have := e.2.1
      show x * 8 + y < 64
      omega)))) (fun h => absurd h (by omega))
  | succ r ih =>
    intro n i lv lev hi hn hl I
    obtain ⟨n, rfl⟩ : ∃ m, n = m + 1 := ⟨n - 1, by omega⟩
    obtain ⟨a, b, ha, hb, rfl⟩ : ∃ a b, a < 8 ∧ b < 8 ∧ i = a * 8 + b := ⟨i / 8, i % 8, by omega, by omega, by omega⟩
    have e1 : nI (a * 8 + b) >>> ((3 : Int32) &&& 31) = nI a := (ll_s3 (by omega)).trans (congrArg nI (by omega))
    have e2 : nI (a * 8 + b) &&& 7 = nI b := (ll_a7 (by omega)).trans (congrArg nI (by omega))
    have c1 : (nI (a * 8 + b)).toNatClampNeg = a * 8 + b := nI_clamp (by omega)
    have c2 : (nI a).toNatClampNeg = a := nI_clamp (by omega)
    have c3 : (nI b).toNatClampNeg = b := nI_clamp (by omega)
    have hia : vp_in (nI a) 8 := vp_in_nI ha (by decide)
    have hib : vp_in (nI b) 8 := vp_in_nI hb (by decide)
    have hD : ∀ x y, x * 8 + y < a * 8 + b + 1 → x < 8 ∧ y < 8 → x * 8 + y < a * 8 + b ∨ (x = a ∧ y = b) := by
      intro x y h1 h2
      omega
    have lb : lev b ≤ 8 := Nat.le_trans (I.1 b) (Nat.le_trans (gr_cle _ L) hL)
    have la : lev a ≤ 8 := Nat.le_trans (I.1 a) (Nat.le_trans (gr_cle _ L) hL)
    have dom : ∀ x y, ll_E ed x y → x * 8 + y < a * 8 + b + 1 → (x * 8 + y < a * 8 + b + 1 ∧ x < 8 ∧ y < 8) := fun x y e d => ⟨d, e.1, e.2.1⟩
    refine pk_le 64 (a * 8 + b) (fun h => absurd h (by omega)) (fun _ => nm_r e1 (nm_r e2 ?_))
    rw [c1, c2, c3, hl a ha, hl b hb, nI_1 (lev a)]
    refine ⟨vp_in_nI (by omega) (by decide), ?_⟩
    by_cases z : ed (a * 8 + b) = 0
    · exact br_t z (nm_r (nI_1 _) (ih n (a * 8 + b + 1) lv lev (by omega) (by omega) hl (gr_LIsub (gr_LIno (D' := fun x y => x * 8 + y < a * 8 + b + 1 ∧ x < 8 ∧ y < 8) a b I (fun e => absurd z e.2.2) (fun x y d => hD x y d.1 d.2)) dom)))
    · have e : ll_E ed a b := ⟨ha, hb, z⟩
      refine br_f z ⟨hia, hib, pk_le (lev a + 1) (lev b) (fun h => ?_) (fun h => ?_)⟩
      · exact nm_r (nI_1 _) (ih n (a * 8 + b + 1) lv lev (by omega) (by omega) hl (gr_LIsub (gr_LIno (D' := fun x y => x * 8 + y < a * 8 + b + 1 ∧ x < 8 ∧ y < 8) a b I (fun _ => h) (fun x y d => hD x y d.1 d.2)) dom))
      · refine ⟨hia, hib, nm_e (nm_r (nI_1 _) (ih n (a * 8 + b + 1) (upd lv b (nI (lev a + 1))) (fun j => if j = b then lev a + 1 else lev j) (by omega) (by omega) (fun j hj => ?_) (gr_LIsub (gr_LIup (D' := fun x y => x * 8 + y < a * 8 + b + 1 ∧ x < 8 ∧ y < 8) hE hac a b I e (by omega) (fun x y d => hD x y d.1 d.2) _ (if_pos rfl) (fun j hj => if_neg hj)) dom)))⟩
        by_cases x : j = b
        · rw [x, pk_us, if_pos rfl]
        · rw [pk_un x, if_neg x]
          exact hl j hj
theorem ly_281 {post : Int32 → SY → Prop} {L : Nat} (hL : L ≤ 8) (hE : ∀ a b, ll_E ed a b → a < L ∧ b < L) (hac : ∀ x, ¬ gr_P (ll_E ed) L x x) (hp : ∀ lv' lev', (∀ j, j < 8 → lv' j = nI (lev' j)) → gr_LI (ll_E ed) L 8 (fun _ _ => False) lev' → wY_check_362 post nl nt cl se vd rc op ar ln en so ed re lv' hd hc fp fc dp) : ∀ (r n q : Nat) (lv : Nat → Int32) (lev : Nat → Nat), q + r = 8 → r < n → (∀ j, j < 8 → lv j = nI (lev j)) → gr_LI (ll_E ed) L q (fun _ _ => False) lev → wY_check_281 post nl nt cl se vd rc n (nI q) op ar ln en so ed re lv hd hc fp fc dp := by
  intro r
  induction r with
  | zero =>
    intro n q lv lev hq hn hl I
    obtain ⟨n, rfl⟩ : ∃ m, n = m + 1 := ⟨n - 1, by omega⟩
    have e : q = 8 := by omega
    subst e
    exact pk_le 8 8 (fun _ => hp lv lev hl I) (fun h => absurd h (by omega))
  | succ r ih =>
    intro n q lv lev hq hn hl I
    obtain ⟨n, rfl⟩ : ∃ m, n = m + 1 := ⟨n - 1, by omega⟩
    refine pk_le 8 q (fun h => absurd h (by omega)) (fun _ => ?_)
    exact ⟨65, ly_289 (q := q) hL hE hac (fun lv' lev' hl' I' => ih n (q + 1) lv' lev' (by omega) (by omega) hl' I') 64 65 0 lv lev (by omega) (by omega) hl (gr_LIsub I (fun _ _ _ d => absurd d (by omega)))⟩
theorem ly_long0 {post : Int32 → SY → Prop} {T : Nat} (hT : T ≤ 4) (hs : ∀ s, s < T → ∃ m, m ≤ 512 ∧ so s = nI m) (hp : ∃ n, wY_check_115 post nl (nI T) cl se vd rc n 0 op ar ln en so ed re lv hd hc fp fc dp) : ∀ (r n k : Nat), k + r = T → r < n → wY_check_52 post nl (nI T) cl se vd rc op ar ln en so ed re lv hd hc fp fc dp n 0 (nI k) := by
  intro r
  induction r with
  | zero =>
    intro n k hk hn
    obtain ⟨n, rfl⟩ : ∃ m, n = m + 1 := ⟨n - 1, by omega⟩
    have e : k = T := by omega
    subst e
    exact pk_le k k (fun _ => br_t rfl hp) (fun h => absurd h (by omega))
  | succ r ih =>
    intro n k hk hn
    obtain ⟨n, rfl⟩ : ∃ m, n = m + 1 := ⟨n - 1, by omega⟩
    obtain ⟨m, hm, e⟩ := hs k (by omega)
    have c1 : (nI k).toNatClampNeg = k := nI_clamp (by omega)
    exact pk_le T k (fun h => absurd h (by omega)) (fun _ => And.intro (vp_in_nI (by omega) (by decide)) (pk_eq m 513 (fun h => absurd h (by omega)) (fun _ => nm_r (nI_1 k) (ih n (k + 1) (by omega) (by omega))) (by rw [c1]; exact e)))
theorem ly_long1 {post : Int32 → SY → Prop} {T : Nat} (hT : T ≤ 4) (hs : ∀ s, s < T → ∃ m, m ≤ 513 ∧ so s = nI m) (hp : ∃ n, wY_check_86 post nl (nI T) cl se vd rc n 0 op ar ln en so ed re lv hd hc fp fc dp) : ∀ (r n k : Nat) (v : Int32), k + r = T → r < n → (v = 1 ∨ ∃ s, k ≤ s ∧ s < T ∧ so s = nI 513) → wY_check_52 post nl (nI T) cl se vd rc op ar ln en so ed re lv hd hc fp fc dp n v (nI k) := by
  intro r
  induction r with
  | zero =>
    intro n k v hk hn h
    obtain ⟨n, rfl⟩ : ∃ m, n = m + 1 := ⟨n - 1, by omega⟩
    have e : k = T := by omega
    subst e
    have hv : v = 1 := by
      rcases h with h | ⟨s, h1, h2, _⟩
      · exact h
      · omega
    subst hv
    exact pk_le k k (fun _ => br_f ll_1n0 hp) (fun h => absurd h (by omega))
  | succ r ih =>
    intro n k v hk hn h
    obtain ⟨n, rfl⟩ : ∃ m, n = m + 1 := ⟨n - 1, by omega⟩
    obtain ⟨m, hm, e⟩ := hs k (by omega)
    have c1 : (nI k).toNatClampNeg = k := nI_clamp (by omega)
    refine pk_le T k (fun h => absurd h (by omega)) (fun _ => And.intro (vp_in_nI (by omega) (by decide)) (pk_eq m 513 (fun _ => nm_r (nI_1 k) (ih n (k + 1) 1 (by omega) (by omega) (Or.inl rfl))) (fun hm' => nm_r (nI_1 k) (ih n (k + 1) v (by omega) (by omega) ?_)) (by rw [c1]; exact e)))
    rcases h with h | ⟨s, h1, h2, h3⟩
    · exact Or.inl h
    · have x : s ≠ k := by
        intro x
        rw [x, e, nI_eq (by omega) (by omega)] at h3
        omega
      exact Or.inr ⟨s, by omega, h2, h3⟩
theorem ly_clr {post : Int32 → SY → Prop} (hp : wY_check_362 post nl nt cl se 2 rc op ar ln en so (ll_fl 64 ed 0) re lv hd hc fp fc dp) : ∀ (r n k : Nat), k + r = 64 → r < n → wY_check_86 post nl nt cl se vd rc n (nI k) op ar ln en so (ll_fl k ed 0) re lv hd hc fp fc dp := by
  intro r
  induction r with
  | zero =>
    intro n k hk hn
    obtain ⟨n, rfl⟩ : ∃ m, n = m + 1 := ⟨n - 1, by omega⟩
    have e : k = 64 := by omega
    subst e
    exact pk_le 64 64 (fun _ => hp) (fun h => absurd h (by omega))
  | succ r ih =>
    intro n k hk hn
    obtain ⟨n, rfl⟩ : ∃ m, n = m + 1 := ⟨n - 1, by omega⟩
    have c1 : (nI k).toNatClampNeg = k := nI_clamp (by omega)
    have q := ih n (k + 1) (by omega) (by omega)
    have hi : vp_in (nI k) 64 := vp_in_nI (by omega) (by decide)
    exact pk_le 64 k (fun h => absurd h (by omega)) (fun _ => And.intro hi (nm_r (e' := ll_fl (k + 1) ed 0) (by rw [c1, ll_b0, ll_fl_s]) (nm_r (nI_1 k) q)))
theorem ly_verL {post : Int32 → SY → Prop} {T : Nat} (hT : T ≤ 4) (hs : ∀ s, s < T → ∃ m, m ≤ 513 ∧ so s = nI m) (h : ∃ s, s < T ∧ so s = nI 513) (hp : wY_check_362 post nl (nI T) cl se 2 rc op ar ln en so (ll_fl 64 ed 0) re lv hd hc fp fc dp) : ∃ n, wY_check_52 post nl (nI T) cl se vd rc op ar ln en so ed re lv hd hc fp fc dp n 0 0 := by
  obtain ⟨s, h1, h2⟩ := h
  have q := ly_clr (vd := vd) hp 64 65 0 (by omega) (by omega)
  rw [ll_fl_0] at q
  exact ⟨T + 1, ly_long1 hT hs ⟨65, q⟩ T (T + 1) 0 0 (by omega) (by omega) (Or.inr ⟨s, by omega, h1, h2⟩)⟩
theorem ly_verN {post : Int32 → SY → Prop} {L T : Nat} (hL : L ≤ 8) (hT : T ≤ 4) (hs : ∀ s, s < T → ∃ m, m ≤ 512 ∧ so s = nI m) (B : ll_EB L ed) (hl : ∀ j, j < 8 → lv j = 0)
    (hpC : ∀ re', (∀ a b, a < 8 → b < 8 → (¬ re' (a * 8 + b) = 0 ↔ gr_P (ll_E ed) L a b)) → (∃ l, gr_P (ll_E ed) L l l) → wY_check_362 post (nI L) (nI T) cl se 1 rc op ar ln en so ed re' lv hd hc fp fc dp)
    (hpA : ∀ re' lv' lev', (∀ x, ¬ gr_P (ll_E ed) L x x) → (∀ j, j < 8 → lv' j = nI (lev' j)) → gr_LI (ll_E ed) L 8 (fun _ _ => False) lev' → wY_check_362 post (nI L) (nI T) cl se 0 rc op ar ln en so ed re' lv' hd hc fp fc dp) : ∃ n, wY_check_52 post (nI L) (nI T) cl se vd rc op ar ln en so ed re lv hd hc fp fc dp n 0 0 := by
  refine ⟨T + 1, ly_long0 hT hs ?_ T (T + 1) 0 (by omega) (by omega)⟩
  refine ly_reach hL B (fun re' I => ?_)
  by_cases c : ∃ l, gr_P (ll_E ed) L l l
  · obtain ⟨l, hl'⟩ := c
    have hl8 := (gr_dom (L := 8) (fun a b (e : ll_E ed a b) => ⟨e.1, e.2.1⟩) L hl').1
    exact ⟨9, ly_241c (hpC re' I ⟨l, hl'⟩) 8 9 0 0 (by omega) (by omega) (Or.inr ⟨l, by omega, hl8, (I l l hl8 hl8).mpr hl'⟩)⟩
  · have hac : ∀ x, ¬ gr_P (ll_E ed) L x x := fun x q => c ⟨x, q⟩
    refine ⟨9, ly_241a (fun l hl' => ?_) ⟨9, ly_281 hL (ll_Edom B) hac (fun lv' lev' q1 q2 => hpA re' lv' lev' hac q1 q2) 8 9 0 lv (fun _ => 0) (by omega) (by omega) hl (gr_LI0 (ll_Edom B) hac (fun _ => rfl))⟩ 8 9 0 (by omega) (by omega)⟩
    by_cases x : re' (l * 8 + l) = 0
    · exact x
    · exact absurd ((I l l hl' hl').mp x) (hac l)
end
end
section
/-! waits, steps, runs, deadlocks in lockstep -/
def ll_fld (v i : Int32) : Int32 := ((v.toUInt32 >>> ((2 * (i - i / 16 * 16)).toUInt32 &&& Int32.toUInt32 31)).toInt32) &&& 3
section
variable {nl nt cl se vd lk rc vy : Int32} {op ar ln en so lv lw ed pa re fp fc dp hd hc hy cy fp' fc' dp' : Nat → Int32}
theorem lx_thr1 {post : Int32 → Prop} {T j : Nat} (hj : j < T) (hT : T ≤ 4) (hp : post 1) : wpX_isThread post (nl, nI T, cl, se, vd, lk, op, ar, ln, en, so, lv, ed, pa, fp, fc, dp, hd, hc) (nI j) :=
  br_f (nI_pos (by omega)) (br_f (nI_ge hj (by omega)) hp)
theorem lx_thr0 {post : Int32 → Prop} {T : Nat} {x : Int32} (hx : x < 0 ∨ nI T ≤ x) (hp : post 0) : wpX_isThread post (nl, nI T, cl, se, vd, lk, op, ar, ln, en, so, lv, ed, pa, fp, fc, dp, hd, hc) x := by
  by_cases h : x < 0
  · exact br_t h hp
  · rcases hx with q | q
    · exact absurd q h
    · exact br_f h (br_t q hp)
theorem lx_lock1 {post : Int32 → Prop} {L j : Nat} (hj : j < L) (hL : L ≤ 8) (hp : post 1) : wpX_isLock post (nI L, nt, cl, se, vd, lk, op, ar, ln, en, so, lv, ed, pa, fp, fc, dp, hd, hc) (nI j) :=
  br_f (nI_pos (by omega)) (br_f (nI_ge hj (by omega)) hp)
theorem lx_lock0 {post : Int32 → Prop} {L : Nat} {x : Int32} (hx : x < 0 ∨ nI L ≤ x) (hp : post 0) : wpX_isLock post (nI L, nt, cl, se, vd, lk, op, ar, ln, en, so, lv, ed, pa, fp, fc, dp, hd, hc) x := by
  by_cases h : x < 0
  · exact br_t h hp
  · rcases hx with q | q
    · exact absurd q h
    · exact br_f h (br_t q hp)
theorem lx_run0 {post : Int32 → Prop} {T : Nat} {x : Int32} (hx : x < 0 ∨ nI T ≤ x) (hp : post 0) : wpX_isRunning post (nl, nI T, cl, 1, vd, lk, op, ar, ln, en, so, lv, ed, pa, fp, fc, dp, hd, hc) x :=
  br_f ll_1n0 (lx_thr0 hx (br_t rfl hp))
theorem lx_runU {post : Int32 → Prop} {x : Int32} (hp : post 0) : wpX_isRunning post (nl, nt, cl, 0, vd, lk, op, ar, ln, en, so, lv, ed, pa, fp, fc, dp, hd, hc) x := br_t rfl hp
theorem lx_run1 {post : Int32 → Prop} {T t d : Nat} (ht : t < T) (hT : T ≤ 4) (hdp : dp t = nI d) (h8 : d ≤ 8) (h0 : d = 0 → post 0) (h1 : d ≠ 0 → post 1) : wpX_isRunning post (nl, nI T, cl, 1, vd, lk, op, ar, ln, en, so, lv, ed, pa, fp, fc, dp, hd, hc) (nI t) :=
  br_f ll_1n0 (lx_thr1 ht hT (br_f ll_1n0 (lx_isDone (by omega) hdp h8 (fun z => br_f ll_1n0 (h0 z)) (fun z => br_t rfl (h1 z)))))
theorem lx_waitU {post : Int32 → Prop} {x : Int32} (hp : post (-1)) : wpX_waitsFor post (nl, nt, cl, 0, vd, lk, op, ar, ln, en, so, lv, ed, pa, fp, fc, dp, hd, hc) x := by
  unfold wpX_waitsFor
  exact lx_runU (br_t rfl hp)
theorem lx_wait0 {post : Int32 → Prop} {T : Nat} {x : Int32} (hx : x < 0 ∨ nI T ≤ x) (hp : post (-1)) : wpX_waitsFor post (nl, nI T, cl, 1, vd, lk, op, ar, ln, en, so, lv, ed, pa, fp, fc, dp, hd, hc) x := by
  unfold wpX_waitsFor
  exact lx_run0 hx (br_t rfl hp)
theorem lx_waitD {post : Int32 → Prop} {T t : Nat} (ht : t < T) (hT : T ≤ 4) (hdp : dp t = nI 0) (hp : post (-1)) : wpX_waitsFor post (nl, nI T, cl, 1, vd, lk, op, ar, ln, en, so, lv, ed, pa, fp, fc, dp, hd, hc) (nI t) := by
  unfold wpX_waitsFor
  exact lx_run1 ht hT hdp (by omega) (fun _ => br_t rfl hp) (fun z => absurd rfl z)
theorem lx_waitN {post : Int32 → Prop} {T t e p c : Nat} (ht : t < T) (hT : T ≤ 4) (he : e < 8) (hdp : dp t = nI (e + 1)) (h1 : fp (t * 8 + e) = nI p) (hp8 : p < 8) (h2 : fc (t * 8 + e) = nI c) (hc8 : c < 8) (ho : ¬ op (p * 8 + c) = 1) (hp : post (-1)) : wpX_waitsFor post (nl, nI T, cl, 1, vd, lk, op, ar, ln, en, so, lv, ed, pa, fp, fc, dp, hd, hc) (nI t) := by
  unfold wpX_waitsFor
  have c1 : (nI (p * 8 + c)).toNatClampNeg = p * 8 + c := nI_clamp (by omega)
  refine lx_run1 ht hT hdp (by omega) (fun z => absurd z (by omega)) (fun _ => br_f ll_1n0 ?_)
  refine lx_cell (by omega) hdp he h1 h2 ?_
  exact ⟨vp_in_nI (by omega) (by decide), br_f (by rw [c1]; exact ho) hp⟩
theorem lx_waitA {post : Int32 → Prop} {T t e p c a : Nat} (ht : t < T) (hT : T ≤ 4) (he : e < 8) (hdp : dp t = nI (e + 1)) (h1 : fp (t * 8 + e) = nI p) (hp8 : p < 8) (h2 : fc (t * 8 + e) = nI c) (hc8 : c < 8) (ho : op (p * 8 + c) = 1) (ha : ar (p * 8 + c) = nI a) (ha8 : a < 8) (hp1 : hd a = nI t → post (-1)) (hp0 : ¬ hd a = nI t → post (hd a)) : wpX_waitsFor post (nl, nI T, cl, 1, vd, lk, op, ar, ln, en, so, lv, ed, pa, fp, fc, dp, hd, hc) (nI t) := by
  unfold wpX_waitsFor
  have c1 : (nI (p * 8 + c)).toNatClampNeg = p * 8 + c := nI_clamp (by omega)
  have c2 : (nI a).toNatClampNeg = a := nI_clamp (by omega)
  have hz : vp_in (nI (p * 8 + c)) 64 := vp_in_nI (by omega) (by decide)
  refine lx_run1 ht hT hdp (by omega) (fun z => absurd z (by omega)) (fun _ => br_f ll_1n0 ?_)
  refine lx_cell (by omega) hdp he h1 h2 ?_
  exact ⟨hz, br_t (by rw [c1]; exact ho) ⟨hz, by rw [c1, ha]; exact vp_in_nI ha8 (by decide), nm_r (e' := hd a) (by rw [c1, ha, c2]) (br_c hp1 hp0)⟩⟩
theorem ly_waitN {post : Int32 → Prop} {T t e p c m : Nat} (ht : t < T) (hT : T ≤ 4) (he : e < 8) (hdp : dp t = nI (e + 1)) (h1 : fp (t * 8 + e) = nI p) (hp8 : p < 8) (h2 : fc (t * 8 + e) = nI c) (hl : ln p = nI m) (hcm : c < m) (hm : m ≤ 8) (ho : ¬ op (p * 8 + c) = 1) (hp : post (-1)) : wpY_waitOf post (nl, nI T, cl, se, vd, rc, op, ar, ln, en, so, ed, re, lv, hd, hc, fp, fc, dp) (nI t) := by
  have ht1 : vp_in (nI t) 4 := vp_in_nI (by omega) (by decide)
  have hz : vp_in (nI (p * 8 + c)) 64 := vp_in_nI (by omega) (by decide)
  have hi : vp_in (nI (t * 8 + e)) 32 := vp_in_nI (by omega) (by decide)
  have c1 : (nI (p * 8 + c)).toNatClampNeg = p * 8 + c := nI_clamp (by omega)
  have c2 : (nI (t * 8 + e)).toNatClampNeg = t * 8 + e := nI_clamp (by omega)
  have c3 : (nI t).toNatClampNeg = t := nI_clamp (by omega)
  have c4 : (nI p).toNatClampNeg = p := nI_clamp (by omega)
  refine br_f (nI_pos (by omega)) (br_t (nI_lt ht (by omega)) ⟨ht1, nm_r (e' := nI (e + 1)) (by rw [c3, hdp]) (pk_le (e + 1) 0 (fun h => absurd h (by omega)) (fun _ => pk_le (e + 1) 8 (fun _ => ?_) (fun h => absurd h (by omega))))⟩)
  rw [ll_top, c2]
  refine ⟨hi, nm_r (e' := nI p) h1 ⟨hi, nm_r (e' := nI c) h2 ?_⟩⟩
  refine br_f (nI_pos (by omega)) (pk_lt 7 p (fun h => absurd h (by omega)) (fun _ => br_f (nI_pos (by omega)) ⟨vp_in_nI hp8 (by decide), ?_⟩))
  rw [c4, hl, ll_cel p c, c1]
  refine pk_lt c m (fun _ => ?_) (fun h => absurd h (by omega))
  exact ⟨hz, br_f ho hp⟩
theorem ly_waitA {post : Int32 → Prop} {T t e p c m a : Nat} (ht : t < T) (hT : T ≤ 4) (he : e < 8) (hdp : dp t = nI (e + 1)) (h1 : fp (t * 8 + e) = nI p) (hp8 : p < 8) (h2 : fc (t * 8 + e) = nI c) (hl : ln p = nI m) (hcm : c < m) (hm : m ≤ 8) (ho : op (p * 8 + c) = 1) (ha : ar (p * 8 + c) = nI a) (ha8 : a < 8) (hpn : hd a < 0 → post (-1)) (hp1 : hd a = nI t → post (-1)) (hp0 : ¬ hd a = nI t → ¬ hd a < 0 → post (hd a)) : wpY_waitOf post (nl, nI T, cl, se, vd, rc, op, ar, ln, en, so, ed, re, lv, hd, hc, fp, fc, dp) (nI t) := by
  have ht1 : vp_in (nI t) 4 := vp_in_nI (by omega) (by decide)
  have hz : vp_in (nI (p * 8 + c)) 64 := vp_in_nI (by omega) (by decide)
  have hi : vp_in (nI (t * 8 + e)) 32 := vp_in_nI (by omega) (by decide)
  have c1 : (nI (p * 8 + c)).toNatClampNeg = p * 8 + c := nI_clamp (by omega)
  have c2 : (nI (t * 8 + e)).toNatClampNeg = t * 8 + e := nI_clamp (by omega)
  have c3 : (nI t).toNatClampNeg = t := nI_clamp (by omega)
  have c4 : (nI p).toNatClampNeg = p := nI_clamp (by omega)
  refine br_f (nI_pos (by omega)) (br_t (nI_lt ht (by omega)) ⟨ht1, nm_r (e' := nI (e + 1)) (by rw [c3, hdp]) (pk_le (e + 1) 0 (fun h => absurd h (by omega)) (fun _ => pk_le (e + 1) 8 (fun _ => ?_) (fun h => absurd h (by omega))))⟩)
  rw [ll_top, c2]
  refine ⟨hi, nm_r (e' := nI p) h1 ⟨hi, nm_r (e' := nI c) h2 ?_⟩⟩
  refine br_f (nI_pos (by omega)) (pk_lt 7 p (fun h => absurd h (by omega)) (fun _ => br_f (nI_pos (by omega)) ⟨vp_in_nI hp8 (by decide), ?_⟩))
  rw [c4, hl, ll_cel p c, c1]
  refine pk_lt c m (fun _ => ?_) (fun h => absurd h (by omega))
  have c5 : (nI a).toNatClampNeg = a := nI_clamp (by omega)
  rw [ha, c5]
  exact ⟨hz, br_t ho ⟨hz, vp_in_nI ha8 (by decide), nm_e (br_c hpn (fun z => br_c hp1 (fun z2 => hp0 z2 z)))⟩⟩
theorem lm_wait {L T : Nat} (hL : L ≤ 8) (hT : T ≤ 4) (C : ll_CI L op ar ln) (S : ll_TS T ln fp fc dp) (K : ll_LK L T hd hc hy cy) (x : Int32) :
    ∃ w : Int32, (w = -1 ∨ ∃ s, s < T ∧ w = nI s) ∧ (x < 0 → w = -1) ∧ (w = -1 → ∀ t e p c a, x = nI t → t < T → p < 8 → c < 8 → a < L → dp t = nI (e + 1) → e < 8 → fp (t * 8 + e) = nI p → fc (t * 8 + e) = nI c → op (p * 8 + c) = 1 → ar (p * 8 + c) = nI a → hd a = -1 ∨ hd a = nI t) ∧ (∀ post : Int32 → Prop, post w → wpX_waitsFor post (nl, nI T, cl, 1, vd, lk, op, ar, ln, en, so, lv, ed, pa, fp, fc, dp, hd, hc) x) ∧ (∀ post : Int32 → Prop, post w → wpY_waitOf post (nl, nI T, cl, se, vy, rc, op, ar, ln, en, so, ed, re, lw, hy, cy, fp, fc, dp) x) := by
  rcases pk_ix x (n := T) (by omega) with hx | hx | ⟨t, ht, rfl⟩
  · refine ⟨-1, Or.inl rfl, fun _ => rfl, fun _ t e p c a ht => ?_, fun post hp => lx_wait0 (Or.inl hx) hp, fun post hp => br_t hx hp⟩
    intro htT
    rw [ht] at hx
    exact absurd hx (nI_pos (by omega))
  · have hx0 : ¬ x < 0 := fun q => by
      have := Int32.lt_of_le_of_lt hx q
      exact nI_pos (by omega) this
    have hx1 : ¬ x < nI T := fun q => Int32.lt_irrefl (Int32.lt_of_lt_of_le q hx)
    refine ⟨-1, Or.inl rfl, fun q => absurd q hx0, fun _ t e p c a ht htT => ?_, fun post hp => lx_wait0 (Or.inr hx) hp, fun post hp => br_f hx0 (br_f hx1 hp)⟩
    rw [ht] at hx1
    exact absurd (nI_lt htT (by omega)) hx1
  · obtain ⟨d, hd8, hdp, hF, hsd⟩ := S.1 t ht
    have ht1 : vp_in (nI t) 4 := vp_in_nI (by omega) (by decide)
    have c3 : (nI t).toNatClampNeg = t := nI_clamp (by omega)
    cases d with
    | zero =>
      refine ⟨-1, Or.inl rfl, fun _ => rfl, fun _ t' e p c a ht' htT' _ _ _ hdp' he => ?_, fun post hp => lx_waitD ht hT hdp hp, fun post hp => br_f (nI_pos (by omega)) (br_t (nI_lt ht (by omega)) ⟨ht1, nm_r (e' := nI 0) (by rw [c3, hdp]) (pk_le 0 0 (fun _ => hp) (fun h => absurd h (by omega)))⟩)⟩
      rw [nI_eq (by omega) (by omega)] at ht'
      rw [← ht', hdp, nI_eq (by omega) (by omega)] at hdp'
      omega
    | succ e =>
      obtain ⟨he8, _, p, c, m, h1, hep, hp8, h2, hl, hcm, hm⟩ := ll_cur (S.1 t ht) hdp (by omega)
      have hc8 : c < 8 := by omega
      obtain ⟨m', hm', hl', hcode⟩ := C p hp8
      have em : m' = m := (nI_eq (by omega) (by omega)).mp (hl'.symm.trans hl)
      subst em
      have uq : ∀ t' e' p' c', nI t = nI t' → t' < T → p' < 8 → c' < 8 → dp t' = nI (e' + 1) → e' < 8 → fp (t' * 8 + e') = nI p' → fc (t' * 8 + e') = nI c' → t = t' ∧ p = p' ∧ c = c' := by
        intro t' e' p' c' q1 q2 q3 q4 q5 q6 q7 q8
        rw [nI_eq (by omega) (by omega)] at q1
        subst q1
        rw [hdp, nI_eq (by omega) (by omega)] at q5
        have q9 : e = e' := by omega
        subst q9
        rw [h1, nI_eq (by omega) (by omega)] at q7
        rw [h2, nI_eq (by omega) (by omega)] at q8
        exact ⟨rfl, q7, q8⟩
      have neg : ¬ op (p * 8 + c) = 1 → ∃ w : Int32, (w = -1 ∨ ∃ s, s < T ∧ w = nI s) ∧ (nI t < 0 → w = -1) ∧ (w = -1 → ∀ t' e p c a, nI t = nI t' → t' < T → p < 8 → c < 8 → a < L → dp t' = nI (e + 1) → e < 8 → fp (t' * 8 + e) = nI p → fc (t' * 8 + e) = nI c → op (p * 8 + c) = 1 → ar (p * 8 + c) = nI a → hd a = -1 ∨ hd a = nI t') ∧ (∀ post : Int32 → Prop, post w → wpX_waitsFor post (nl, nI T, cl, 1, vd, lk, op, ar, ln, en, so, lv, ed, pa, fp, fc, dp, hd, hc) (nI t)) ∧ (∀ post : Int32 → Prop, post w → wpY_waitOf post (nl, nI T, cl, se, vy, rc, op, ar, ln, en, so, ed, re, lw, hy, cy, fp, fc, dp) (nI t)) := by
        intro ho
        refine ⟨-1, Or.inl rfl, fun _ => rfl, fun _ t' e' p' c' a q1 q2 q3 q4 _ q5 q6 q7 q8 q9 _ => ?_, fun post hp => lx_waitN ht hT he8 hdp h1 hp8 h2 hc8 ho hp, fun post hp => ly_waitN ht hT he8 hdp h1 hp8 h2 hl hcm hm ho hp⟩
        obtain ⟨_, u2, u3⟩ := uq t' e' p' c' q1 q2 q3 q4 q5 q6 q7 q8
        rw [← u2, ← u3] at q9
        exact absurd q9 ho
      rcases hcode c hcm with ho | ⟨ho, a, haL, ha⟩ | ⟨ho, _⟩ | ⟨ho, _⟩
      · exact neg (by rw [ho]; decide)
      · have ha8 : a < 8 := by omega
        have k1 := K.1 a haL
        have th : hd a = -1 ∨ hd a = nI t → ∀ t' e' p' c' a', nI t = nI t' → t' < T → p' < 8 → c' < 8 → a' < L → dp t' = nI (e' + 1) → e' < 8 → fp (t' * 8 + e') = nI p' → fc (t' * 8 + e') = nI c' → op (p' * 8 + c') = 1 → ar (p' * 8 + c') = nI a' → hd a' = -1 ∨ hd a' = nI t' := by
          intro hh t' e' p' c' a' q1 q2 q3 q4 qa q5 q6 q7 q8 q9 q10
          obtain ⟨u1, u2, u3⟩ := uq t' e' p' c' q1 q2 q3 q4 q5 q6 q7 q8
          rw [← u2, ← u3, ha, nI_eq (by omega) (by omega)] at q10
          rw [← q10, ← u1]
          exact hh
        by_cases hn : hd a = nI t
        · have hn' : hy a = nI t := k1.1.trans hn
          exact ⟨-1, Or.inl rfl, fun _ => rfl, fun _ => th (Or.inr hn), fun post hp => lx_waitA ht hT he8 hdp h1 hp8 h2 hc8 ho ha ha8 (fun _ => hp) (fun z => absurd hn z), fun post hp => ly_waitA ht hT he8 hdp h1 hp8 h2 hl hcm hm ho ha ha8 (fun _ => hp) (fun _ => hp) (fun z => absurd hn' z)⟩
        · have hn' : ¬ hy a = nI t := fun q => hn (k1.1.symm.trans q)
          refine ⟨hd a, ?_, fun q => absurd q (nI_pos (by omega)), fun q => th (Or.inl q), fun post hp => lx_waitA ht hT he8 hdp h1 hp8 h2 hc8 ho ha ha8 (fun z => absurd z hn) (fun _ => hp), fun post hp => ly_waitA ht hT he8 hdp h1 hp8 h2 hl hcm hm ho ha ha8 (fun z => ?_) (fun z => absurd z hn') (fun _ _ => by rw [k1.1]; exact hp)⟩
          · rcases k1.2.2 with q | q
            · exact Or.inl q.1
            · exact Or.inr q
          · rcases k1.2.2 with q | ⟨s, hs, q⟩
            · rw [q.1] at hp; exact hp
            · rw [k1.1, q] at z
              exact absurd z (nI_pos (by omega))
      · exact neg (by rw [ho]; decide)
      · exact neg (by rw [ho]; decide)
theorem lm_step {L T : Nat} (hL : L ≤ 8) (hT : T ≤ 4) (C : ll_CI L op ar ln) (S : ll_TS T ln fp fc dp) (K : ll_LK L T hd hc hy cy) (x : Int32) :
    ∃ r fp' fc' dp' hd' hc' hy' cy', ll_TS T ln fp' fc' dp' ∧ ll_LK L T hd' hc' hy' cy' ∧ (∀ post : Int32 → SX → Prop, post r (nl, nI T, cl, 1, vd, lk, op, ar, ln, en, so, lv, ed, pa, fp', fc', dp', hd', hc') → wpX_step post (nl, nI T, cl, 1, vd, lk, op, ar, ln, en, so, lv, ed, pa, fp, fc, dp, hd, hc) x) ∧ (∀ post : Int32 → SY → Prop, post r (nl, nI T, cl, 1, vy, 0, op, ar, ln, en, so, ed, re, lw, hy', cy', fp', fc', dp') → wpY_step post (nl, nI T, cl, 1, vy, 0, op, ar, ln, en, so, ed, re, lw, hy, cy, fp, fc, dp) x) := by
  rcases pk_ix x (n := T) (by omega) with hx | hx | ⟨t, ht, rfl⟩
  · exact ⟨3, fp, fc, dp, hd, hc, hy, cy, S, K, fun post hp => br_f ll_1n0 (lx_thr0 (Or.inl hx) (br_t rfl hp)), fun post hp => br_f ll_1n0 (br_t hx hp)⟩
  · have hx0 : ¬ x < 0 := fun q => by
      have := Int32.lt_of_le_of_lt hx q
      exact nI_pos (by omega) this
    have hx1 : ¬ x < nI T := fun q => Int32.lt_irrefl (Int32.lt_of_lt_of_le q hx)
    exact ⟨3, fp, fc, dp, hd, hc, hy, cy, S, K, fun post hp => br_f ll_1n0 (lx_thr0 (Or.inr hx) (br_t rfl hp)), fun post hp => br_f ll_1n0 (br_f hx0 (br_f hx1 hp))⟩
  · obtain ⟨d, hd8, hdp, hF, hsd⟩ := S.1 t ht
    have ht1 : vp_in (nI t) 4 := vp_in_nI (by omega) (by decide)
    have c3 : (nI t).toNatClampNeg = t := nI_clamp (by omega)
    cases d with
    | zero =>
      exact ⟨2, fp, fc, dp, hd, hc, hy, cy, S, K, fun post hp => br_f ll_1n0 (lx_thr1 ht hT (br_f ll_1n0 (lx_isDone (by omega) hdp (by omega) (fun _ => br_f ll_1n0 hp) (fun z => absurd rfl z)))), fun post hp => br_f ll_1n0 (br_f (nI_pos (by omega)) (br_t (nI_lt ht (by omega)) ⟨ht1, pk_lt 0 0 (fun h => absurd h (by omega)) (fun _ => hp) rfl (by rw [c3]; exact hdp)⟩))⟩
    | succ e =>
      obtain ⟨w, hw, _, hfr, wX, wY⟩ := lm_wait (nl := nl) (cl := cl) (se := 1) (vd := vd) (lk := lk) (rc := 0) (vy := vy) (en := en) (so := so) (lv := lv) (lw := lw) (ed := ed) (pa := pa) (re := re) hL hT C S K (nI t)
      by_cases hm1 : w = -1
      · obtain ⟨fp', fc', dp', hd', hc', hy', cy', S', K', eX, eY⟩ := lm_exec (nl := nl) (nt := nI T) (cl := cl) (se := 1) (vd := vd) (lk := lk) (vy := vy) (en := en) (so := so) (lv := lv) (lw := lw) (ed := ed) (pa := pa) (re := re) hL hT ht C S K hdp (by omega) (fun p c a hp8 hc8 haL q1 q2 q3 q4 => hfr hm1 t e p c a rfl ht hp8 hc8 haL hdp (by omega) q1 q2 q3 q4)
        subst hm1
        refine ⟨0, fp', fc', dp', hd', hc', hy', cy', S', K', fun post hp => ?_, fun post hp => ?_⟩
        · refine br_f ll_1n0 (lx_thr1 ht hT (br_f ll_1n0 (lx_isDone (by omega) hdp (by omega) (fun z => absurd z (by omega)) (fun _ => br_t rfl ?_))))
          exact wX _ (br_t rfl (eX _ hp))
        · refine br_f ll_1n0 (br_f (nI_pos (by omega)) (br_t (nI_lt ht (by omega)) ⟨ht1, pk_lt 0 (e + 1) (fun _ => ?_) (fun h => absurd h (by omega)) rfl (by rw [c3]; exact hdp)⟩))
          exact wY _ (br_t (by decide) (eY _ hp))
      · obtain ⟨s, hs, rfl⟩ : ∃ s, s < T ∧ w = nI s := hw.resolve_left hm1
        refine ⟨1, fp, fc, dp, hd, hc, hy, cy, S, K, fun post hp => ?_, fun post hp => ?_⟩
        · refine br_f ll_1n0 (lx_thr1 ht hT (br_f ll_1n0 (lx_isDone (by omega) hdp (by omega) (fun z => absurd z (by omega)) (fun _ => br_t rfl ?_))))
          exact wX _ (br_f hm1 hp)
        · refine br_f ll_1n0 (br_f (nI_pos (by omega)) (br_t (nI_lt ht (by omega)) ⟨ht1, pk_lt 0 (e + 1) (fun _ => ?_) (fun h => absurd h (by omega)) rfl (by rw [c3]; exact hdp)⟩))
          exact wY _ (br_f (nI_pos (by omega)) hp)
theorem lm_run {L T N : Nat} {v : Int32} (hL : L ≤ 8) (h1T : 1 ≤ T) (hT : T ≤ 4) (hN : N ≤ 1024) (C : ll_CI L op ar ln) : ∀ (m i : Nat) (c : Int32) (fp fc dp hd hc hy cy : Nat → Int32), i + m = N → ll_TS T ln fp fc dp → ll_LK L T hd hc hy cy →
    ∃ c' fp' fc' dp' hd' hc' hy' cy', ll_TS T ln fp' fc' dp' ∧ ll_LK L T hd' hc' hy' cy' ∧ (∀ (post : Int32 → SX → Prop) (n : Nat), m < n → post c' (nl, nI T, cl, 1, vd, lk, op, ar, ln, en, so, lv, ed, pa, fp', fc', dp', hd', hc') → wX_run_24 post v (nI N) n c (nI i) nl (nI T) cl 1 vd lk op ar ln en so lv ed pa fp fc dp hd hc) ∧ (∀ (post : Int32 → SY → Prop) (n : Nat), m < n → post c' (nl, nI T, cl, 1, vy, 0, op, ar, ln, en, so, ed, re, lw, hy', cy', fp', fc', dp') → wY_run_38 post v (nI N) n c (nI i) nl (nI T) cl 1 vy 0 op ar ln en so ed re lw hy cy fp fc dp) := by
  have hT0 : ¬ nI T = 0 := nI_ne0 (by omega) (by omega)
  have h16 : ¬ (16 : Int32) = 0 := by decide
  intro m
  induction m with
  | zero =>
    intro i c fp fc dp hd hc hy cy hi S K
    have e : i = N := by omega
    subst e
    refine ⟨c, fp, fc, dp, hd, hc, hy, cy, S, K, fun post n hn hp => ?_, fun post n hn hp => ?_⟩
    · obtain ⟨n, rfl⟩ : ∃ m, n = m + 1 := ⟨n - 1, by omega⟩
      exact pk_le i i (fun _ => hp) (fun h => absurd h (by omega))
    · obtain ⟨n, rfl⟩ : ∃ m, n = m + 1 := ⟨n - 1, by omega⟩
      exact pk_le i i (fun _ => hp) (fun h => absurd h (by omega))
  | succ m ih =>
    intro i c fp fc dp hd hc hy cy hi S K
    obtain ⟨r, fp1, fc1, dp1, hd1, hc1, hy1, cy1, S1, K1, sX, sY⟩ := lm_step (nl := nl) (cl := cl) (vd := vd) (lk := lk) (vy := vy) (en := en) (so := so) (lv := lv) (lw := lw) (ed := ed) (pa := pa) (re := re) hL hT C S K (ll_fld v (nI i) - ll_fld v (nI i) / nI T * nI T)
    by_cases hr : r = 0
    · obtain ⟨c', fp', fc', dp', hd', hc', hy', cy', S', K', gX, gY⟩ := ih (i + 1) (c + 1) fp1 fc1 dp1 hd1 hc1 hy1 cy1 (by omega) S1 K1
      refine ⟨c', fp', fc', dp', hd', hc', hy', cy', S', K', fun post n hn hp => ?_, fun post n hn hp => ?_⟩
      · obtain ⟨n, rfl⟩ : ∃ m, n = m + 1 := ⟨n - 1, by omega⟩
        refine pk_le N i (fun h => absurd h (by omega)) (fun _ => And.intro h16 (nm_r (e' := ll_fld v (nI i)) rfl ⟨hT0, sX _ ?_⟩))
        exact br_t hr (nm_e (nm_r (nI_1 i) (gX post n (by omega) hp)))
      · obtain ⟨n, rfl⟩ : ∃ m, n = m + 1 := ⟨n - 1, by omega⟩
        refine pk_le N i (fun h => absurd h (by omega)) (fun _ => And.intro h16 (nm_r (e' := ll_fld v (nI i)) rfl ⟨hT0, nm_e (sY _ ?_)⟩))
        exact br_t hr (nm_e (nm_r (nI_1 i) (gY post n (by omega) hp)))
    · obtain ⟨c', fp', fc', dp', hd', hc', hy', cy', S', K', gX, gY⟩ := ih (i + 1) c fp1 fc1 dp1 hd1 hc1 hy1 cy1 (by omega) S1 K1
      refine ⟨c', fp', fc', dp', hd', hc', hy', cy', S', K', fun post n hn hp => ?_, fun post n hn hp => ?_⟩
      · obtain ⟨n, rfl⟩ : ∃ m, n = m + 1 := ⟨n - 1, by omega⟩
        refine pk_le N i (fun h => absurd h (by omega)) (fun _ => And.intro h16 (nm_r (e' := ll_fld v (nI i)) rfl ⟨hT0, sX _ ?_⟩))
        exact br_f hr (nm_r (nI_1 i) (gX post n (by omega) hp))
      · obtain ⟨n, rfl⟩ : ∃ m, n = m + 1 := ⟨n - 1, by omega⟩
        refine pk_le N i (fun h => absurd h (by omega)) (fun _ => And.intro h16 (nm_r (e' := ll_fld v (nI i)) rfl ⟨hT0, nm_e (sY _ ?_)⟩))
        exact br_f hr (nm_r (nI_1 i) (gY post n (by omega) hp))
theorem lm_chain {L T s : Nat} (hL : L ≤ 8) (hT : T ≤ 4) (hs : s < T) (C : ll_CI L op ar ln) (S : ll_TS T ln fp fc dp) (K : ll_LK L T hd hc hy cy) : ∀ (m k : Nat) (r : Int32), k + 1 + m = T →
    ∃ b : Int32, (b = 0 ∨ b = 1) ∧ (∀ (post : Int32 → Prop) (n : Nat), m < n → post b → wX_waitsForItself_8 post (nI s) nl (nI T) cl 1 vd lk op ar ln en so lv ed pa fp fc dp hd hc n r (nI (k + 1))) ∧ (∀ (post : Int32 → Prop) (J : Int32 → Prop) (n : Nat), m < n → (b = 1 → post 1) → (b = 0 → J (nI (s + 1))) → wY_deadlocked_44 post J (wY_deadlocked_23 post J (nI s) nl (nI T) cl 1 vy rc op ar ln en so ed re lw hy cy fp fc dp n) (nI s) (nI k) r nl (nI T) cl 1 vy rc op ar ln en so ed re lw hy cy fp fc dp) := by
  intro m
  induction m with
  | zero =>
    intro k r hk
    have e : k + 1 = T := by omega
    by_cases z : r = nI s
    · refine ⟨1, Or.inr rfl, fun post n hn hp => ?_, fun post J n hn h1 h0 => br_t z (h1 rfl)⟩
      obtain ⟨n, rfl⟩ : ∃ m, n = m + 1 := ⟨n - 1, by omega⟩
      exact pk_le T (k + 1) (fun _ => br_t z hp) (fun h => absurd h (by omega))
    · refine ⟨0, Or.inl rfl, fun post n hn hp => ?_, fun post J n hn h1 h0 => br_f z (nm_r (nI_1 k) ?_)⟩
      · obtain ⟨n, rfl⟩ : ∃ m, n = m + 1 := ⟨n - 1, by omega⟩
        exact pk_le T (k + 1) (fun _ => br_f z hp) (fun h => absurd h (by omega))
      · obtain ⟨n, rfl⟩ : ∃ m, n = m + 1 := ⟨n - 1, by omega⟩
        exact pk_le T (k + 1) (fun _ => nm_r (nI_1 s) (h0 rfl)) (fun h => absurd h (by omega))
  | succ m ih =>
    intro k r hk
    by_cases z : r = nI s
    · refine ⟨1, Or.inr rfl, fun post n hn hp => ?_, fun post J n hn h1 h0 => br_t z (h1 rfl)⟩
      obtain ⟨n, rfl⟩ : ∃ m, n = m + 1 := ⟨n - 1, by omega⟩
      exact pk_le T (k + 1) (fun h => absurd h (by omega)) (fun _ => br_t z (br_t z hp))
    · obtain ⟨w, _, hneg, _, wX, wY⟩ := lm_wait (nl := nl) (cl := cl) (se := 1) (vd := vd) (lk := lk) (rc := rc) (vy := vy) (en := en) (so := so) (lv := lv) (lw := lw) (ed := ed) (pa := pa) (re := re) hL hT C S K r
      obtain ⟨b, hb, gX, gY⟩ := ih (k + 1) w (by omega)
      refine ⟨b, hb, fun post n hn hp => ?_, fun post J n hn h1 h0 => br_f z (nm_r (nI_1 k) ?_)⟩
      · obtain ⟨n, rfl⟩ : ∃ m, n = m + 1 := ⟨n - 1, by omega⟩
        refine pk_le T (k + 1) (fun h => absurd h (by omega)) (fun _ => br_f z (wX _ ?_))
        exact nm_r (nI_1 (k + 1)) (gX post n (by omega) hp)
      · obtain ⟨n, rfl⟩ : ∃ m, n = m + 1 := ⟨n - 1, by omega⟩
        have q := gY post J n (by omega) h1 h0
        refine pk_le T (k + 1) (fun h => absurd h (by omega)) (fun _ => br_c (fun q1 => ?_) (fun q1 => wY _ q))
        rw [hneg q1] at q
        exact q
theorem lm_wfi {L T s : Nat} (hL : L ≤ 8) (hT : T ≤ 4) (hs : s < T) (C : ll_CI L op ar ln) (S : ll_TS T ln fp fc dp) (K : ll_LK L T hd hc hy cy) :
    ∃ b : Int32, (b = 0 ∨ b = 1) ∧ (∀ (post : Int32 → Prop), post b → wpX_waitsForItself post (nl, nI T, cl, 1, vd, lk, op, ar, ln, en, so, lv, ed, pa, fp, fc, dp, hd, hc) (nI s)) ∧ (∀ (post : Int32 → Prop) (J : Int32 → Prop) (n : Nat), T < n → (b = 1 → post 1) → (b = 0 → J (nI (s + 1))) → wY_deadlocked_23 post J (nI s) nl (nI T) cl 1 vy rc op ar ln en so ed re lw hy cy fp fc dp n (nI s) 0) := by
  obtain ⟨w, _, hneg, _, wX, wY⟩ := lm_wait (nl := nl) (cl := cl) (se := 1) (vd := vd) (lk := lk) (rc := rc) (vy := vy) (en := en) (so := so) (lv := lv) (lw := lw) (ed := ed) (pa := pa) (re := re) hL hT C S K (nI s)
  obtain ⟨b, hb, gX, gY⟩ := lm_chain (nl := nl) (cl := cl) (vd := vd) (lk := lk) (rc := rc) (vy := vy) (en := en) (so := so) (lv := lv) (lw := lw) (ed := ed) (pa := pa) (re := re) hL hT hs C S K (T - 1) 0 w (by omega)
  refine ⟨b, hb, fun post hp => ?_, fun post J n hn h1 h0 => ?_⟩
  · unfold wpX_waitsForItself
    exact wX _ ⟨T, gX post T (by omega) hp⟩
  · obtain ⟨n, rfl⟩ : ∃ m, n = m + 1 := ⟨n - 1, by omega⟩
    exact pk_le T 0 (fun h => absurd h (by omega)) (fun _ => br_f (nI_pos (by omega)) (wY _ (gY post J n (by omega) h1 h0)))
theorem lm_dead {L T : Nat} (hL : L ≤ 8) (hT : T ≤ 4) (C : ll_CI L op ar ln) (S : ll_TS T ln fp fc dp) (K : ll_LK L T hd hc hy cy) : ∀ (m s : Nat), s + m = T →
    ∃ b : Int32, (∀ (post : Int32 → Prop) (n : Nat), m < n → post b → wX_deadlocked_2 post nl (nI T) cl 1 vd lk op ar ln en so lv ed pa fp fc dp hd hc n (nI s)) ∧ (∀ (post : Int32 → Prop) (n : Nat), m < n → post b → wY_deadlocked_11 post nl (nI T) cl 1 vy rc op ar ln en so ed re lw hy cy fp fc dp n (nI s)) := by
  intro m
  induction m with
  | zero =>
    intro s hs
    have e : s = T := by omega
    subst e
    refine ⟨0, fun post n hn hp => ?_, fun post n hn hp => ?_⟩
    · obtain ⟨n, rfl⟩ : ∃ m, n = m + 1 := ⟨n - 1, by omega⟩
      exact pk_le s s (fun _ => hp) (fun h => absurd h (by omega))
    · obtain ⟨n, rfl⟩ : ∃ m, n = m + 1 := ⟨n - 1, by omega⟩
      exact pk_le s s (fun _ => hp) (fun h => absurd h (by omega))
  | succ m ih =>
    intro s hs
    obtain ⟨b, hb, gX, gY⟩ := lm_wfi (s := s) (nl := nl) (cl := cl) (vd := vd) (lk := lk) (rc := rc) (vy := vy) (en := en) (so := so) (lv := lv) (lw := lw) (ed := ed) (pa := pa) (re := re) hL hT (by omega) C S K
    rcases hb with rfl | rfl
    · obtain ⟨b, jX, jY⟩ := ih (s + 1) (by omega)
      refine ⟨b, fun post n hn hp => ?_, fun post n hn hp => ?_⟩
      · obtain ⟨n, rfl⟩ : ∃ m, n = m + 1 := ⟨n - 1, by omega⟩
        exact pk_le T s (fun h => absurd h (by omega)) (fun _ => gX _ (br_t rfl (nm_r (nI_1 s) (jX post n (by omega) hp))))
      · obtain ⟨n, rfl⟩ : ∃ m, n = m + 1 := ⟨n - 1, by omega⟩
        exact pk_le T s (fun h => absurd h (by omega)) (fun _ => ⟨T + 1, gY post _ (T + 1) (by omega) (fun q => absurd q (by decide)) (fun _ => jY post n (by omega) hp)⟩)
    · refine ⟨1, fun post n hn hp => ?_, fun post n hn hp => ?_⟩
      · obtain ⟨n, rfl⟩ : ∃ m, n = m + 1 := ⟨n - 1, by omega⟩
        exact pk_le T s (fun h => absurd h (by omega)) (fun _ => gX _ (br_f ll_1n0 hp))
      · obtain ⟨n, rfl⟩ : ∃ m, n = m + 1 := ⟨n - 1, by omega⟩
        exact pk_le T s (fun h => absurd h (by omega)) (fun _ => ⟨T + 1, gY post _ (T + 1) (by omega) (fun _ => hp) (fun q => absurd q ll_1n0)⟩)
theorem lx_chainU {post : Int32 → Prop} {T s : Nat} (hT : T ≤ 4) (hs : s < T) (hp : post 0) : ∀ (m n k : Nat), k + m = T → m < n → wX_waitsForItself_8 post (nI s) nl (nI T) cl 0 vd lk op ar ln en so lv ed pa fp fc dp hd hc n (-1) (nI k) := by
  have hz : ¬ (-1 : Int32) = nI s := ll_m1 s (by omega)
  intro m
  induction m with
  | zero =>
    intro n k hk hn
    obtain ⟨n, rfl⟩ : ∃ m, n = m + 1 := ⟨n - 1, by omega⟩
    exact pk_le T k (fun _ => br_f hz hp) (fun h => absurd h (by omega))
  | succ m ih =>
    intro n k hk hn
    obtain ⟨n, rfl⟩ : ∃ m, n = m + 1 := ⟨n - 1, by omega⟩
    exact pk_le T k (fun h => absurd h (by omega)) (fun _ => br_f hz (lx_waitU (nm_r (nI_1 k) (ih n (k + 1) (by omega) (by omega)))))
theorem lx_deadU {post : Int32 → Prop} {T : Nat} (h1 : 1 ≤ T) (hT : T ≤ 4) (hp : post 0) : ∀ (m n s : Nat), s + m = T → m < n → wX_deadlocked_2 post nl (nI T) cl 0 vd lk op ar ln en so lv ed pa fp fc dp hd hc n (nI s) := by
  intro m
  induction m with
  | zero =>
    intro n s hs hn
    obtain ⟨n, rfl⟩ : ∃ m, n = m + 1 := ⟨n - 1, by omega⟩
    exact pk_le T s (fun _ => hp) (fun h => absurd h (by omega))
  | succ m ih =>
    intro n s hs hn
    obtain ⟨n, rfl⟩ : ∃ m, n = m + 1 := ⟨n - 1, by omega⟩
    refine pk_le T s (fun h => absurd h (by omega)) (fun _ => ?_)
    unfold wpX_waitsForItself
    refine lx_waitU ?_
    exact ⟨T, lx_chainU hT (by omega) (br_t rfl (nm_r (nI_1 s) (ih n (s + 1) (by omega) (by omega)))) (T - 1) T 1 (by omega) (by omega)⟩
end
end
section
/-! the relation; construction, emit, setEntry -/
def ll_CY (L : Nat) (vd lk : Int32) (re : Nat → Int32) : Prop :=
  (vd = 1 ∧ ∃ l, l < L ∧ lk = nI l ∧ ¬ re (l * 8 + l) = 0 ∧ ∀ j, j < l → re (j * 8 + j) = 0) ∨ (¬ vd = 1 ∧ lk = -1)
def i_Rel (k : Nat) (u : SX) (v : SY) : Prop :=
  ∃ (L T : Nat) (cl se vd lk vy : Int32) (op ar ln en so lv ed pa fp fc dp hd hc re lw hy cy : Nat → Int32),
    u = (nI L, nI T, cl, se, vd, lk, op, ar, ln, en, so, lv, ed, pa, fp, fc, dp, hd, hc) ∧ v = (nI L, nI T, cl, se, vy, 0, op, ar, ln, en, so, ed, re, lw, hy, cy, fp, fc, dp) ∧ 2 ≤ L ∧ L ≤ 8 ∧ 1 ≤ T ∧ T ≤ 4 ∧ ll_CI L op ar ln ∧ ll_EN en ∧ ll_EB L ed ∧
    ((se = 0 ∧ vd = -1 ∧ lk = -1 ∧ (∀ j, j < 8 → lv j = 0) ∧ (∀ j, j < 8 → lw j = 0) ∧ (∀ t, t < 4 → dp t = 0)) ∨
     (se = 1 ∧ vy = vd ∧ ll_TS T ln fp fc dp ∧ ll_LK L T hd hc hy cy ∧ (vd = 0 → ∀ l, l < L → lw l = lv l) ∧ ll_CY L vd lk re))
theorem i_up {k : Nat} {u : SX} {v : SY} (h : i_Rel k u v) : i_Rel (k + 4) u v := h
theorem ll_clamp (x : Int32) (a b : Nat) (hab : a ≤ b) (hb : b < 2 ^ 31) : ∃ L, a ≤ L ∧ L ≤ b ∧ ∀ F : Int32 → Prop, F (nI L) → ((nI a ≤ x → ((x ≤ nI b → F x) ∧ (¬ x ≤ nI b → F (nI b)))) ∧ (¬ nI a ≤ x → F (nI a))) := by
  by_cases h1 : nI a ≤ x
  · by_cases h2 : x ≤ nI b
    · have h0 : ¬ x < 0 := fun q => nI_pos (show a < 2 ^ 31 by omega) (Int32.lt_of_le_of_lt h1 q)
      obtain ⟨j, hj, rfl⟩ := nI_of h0
      rw [nI_leI (by omega) hj] at h1
      rw [nI_leI hj hb] at h2
      exact ⟨j, h1, h2, fun F hF => br_t (nI_le h1 hj) (br_t (nI_le h2 hb) hF)⟩
    · exact ⟨b, hab, Nat.le_refl _, fun F hF => br_t h1 (br_f h2 hF)⟩
  · exact ⟨a, Nat.le_refl _, hab, fun F hF => br_f h1 hF⟩
theorem ll_TS0 {T : Nat} {ln fp fc dp : Nat → Int32} (hT : T ≤ 4) (h : ∀ t, t < 4 → dp t = 0) : ll_TS T ln fp fc dp :=
  ⟨fun t ht => ⟨0, by omega, h t (by omega), fun i hi => absurd hi (by omega), rfl⟩, fun t _ h4 => h t h4⟩
section
variable {nl nt cl se vd lk rc vy : Int32} {op ar ln en so lv lw ed pa re fp fc dp hd hc hy cy fp' fc' dp' : Nat → Int32}
theorem lx_in2 {post : SX → Prop} (hp : post (nl, nt, cl, se, vd, lk, op, ar, ln, ll_cp 4 nI en, so, lv, ed, pa, fp, fc, dp, hd, hc)) : ∀ (r n k : Nat), k + r = 4 → r < n → wX_init_148 post nl nt cl se vd lk n (nI k) op ar ln (ll_cp k nI en) so lv ed pa fp fc dp hd hc := by
  intro r
  induction r with
  | zero =>
    intro n k hk hn
    obtain ⟨n, rfl⟩ : ∃ m, n = m + 1 := ⟨n - 1, by omega⟩
    have e : k = 4 := by omega
    subst e
    exact pk_le 4 4 (fun _ => hp) (fun h => absurd h (by omega))
  | succ r ih =>
    intro n k hk hn
    obtain ⟨n, rfl⟩ : ∃ m, n = m + 1 := ⟨n - 1, by omega⟩
    have c1 : (nI k).toNatClampNeg = k := nI_clamp (by omega)
    have q := ih n (k + 1) (by omega) (by omega)
    exact pk_le 4 k (fun h => absurd h (by omega)) (fun _ => And.intro (vp_in_nI (by omega) (by decide)) (nm_r (e' := ll_cp (k + 1) nI en) (by rw [c1, ll_cp_s]) (nm_r (nI_1 k) q)))
theorem ly_in2 {post : SY → Prop} (hp : post (nl, nt, cl, se, vd, rc, op, ar, ln, ll_cp 4 nI en, so, ed, re, lv, ll_fl 8 hd (-1), ll_fl 8 hc 0, fp, fc, dp)) : ∀ (r n k : Nat), k + r = 4 → r < n → wY_init_155 post nl nt cl se vd rc n (nI k) op ar ln (ll_cp k nI en) so ed re lv hd hc fp fc dp := by
  intro r
  induction r with
  | zero =>
    intro n k hk hn
    obtain ⟨n, rfl⟩ : ∃ m, n = m + 1 := ⟨n - 1, by omega⟩
    have e : k = 4 := by omega
    subst e
    refine pk_le 4 4 (fun _ => ?_) (fun h => absurd h (by omega))
    exact ly_free hp
  | succ r ih =>
    intro n k hk hn
    obtain ⟨n, rfl⟩ : ∃ m, n = m + 1 := ⟨n - 1, by omega⟩
    have c1 : (nI k).toNatClampNeg = k := nI_clamp (by omega)
    have q := ih n (k + 1) (by omega) (by omega)
    exact pk_le 4 k (fun h => absurd h (by omega)) (fun _ => And.intro (vp_in_nI (by omega) (by decide)) (nm_r (e' := ll_cp (k + 1) nI en) (by rw [c1, ll_cp_s]) (nm_r (nI_1 k) q)))
theorem ll_CIu {L p n : Nat} {o a : Int32} (C : ll_CI L op ar ln) (hp8 : p < 8) (hl : ln p = nI n) (hn : n < 8) (hok : o = 0 ∨ (o = 1 ∧ ∃ b, b < L ∧ a = nI b) ∨ (o = 2 ∧ ∃ b, b < L ∧ a = nI b) ∨ (o = 3 ∧ ∃ b, p < b ∧ b < 8 ∧ a = nI b)) : ll_CI L (upd op (p * 8 + n) o) (upd ar (p * 8 + n) a) (upd ln p (nI (n + 1))) := by
  intro q hq
  obtain ⟨m, hm, hl', hcode⟩ := C q hq
  by_cases e : q = p
  · subst e
    have em : m = n := (nI_eq (by omega) (by omega)).mp (hl'.symm.trans hl)
    subst em
    refine ⟨m + 1, by omega, pk_us, fun i hi => ?_⟩
    by_cases x : i = m
    · rw [x, pk_us, pk_us]
      exact hok
    · rw [pk_un (show q * 8 + i ≠ q * 8 + m by omega), pk_un (show q * 8 + i ≠ q * 8 + m by omega)]
      exact hcode i (by omega)
  · refine ⟨m, hm, by rw [pk_un e]; exact hl', fun i hi => ?_⟩
    rw [pk_un (show q * 8 + i ≠ p * 8 + n by omega), pk_un (show q * 8 + i ≠ p * 8 + n by omega)]
    exact hcode i hi
theorem lx_em {post : Int32 → SX → Prop} {p n : Nat} {o g a : Int32} (hp8 : p < 8) (hl : ln p = nI n) (hn8 : n ≤ 8) (ho0 : ¬ o < 0) (ho3 : o ≤ 3) (hfit : ∀ post' : Int32 → Prop, post' 1 → wpX_argumentFits post' (nl, nt, cl, 0, vd, lk, op, ar, ln, en, so, lv, ed, pa, fp, fc, dp, hd, hc) (nI p) o g) (hoa : (o = 0 ∧ a = 0) ∨ (¬ o = 0 ∧ a = g)) (hfull : 8 ≤ n ∨ ¬ cl < 32 → post (-5) (nl, nt, cl, 0, vd, lk, op, ar, ln, en, so, lv, ed, pa, fp, fc, dp, hd, hc)) (hok : n < 8 → cl < 32 → post (nI n) (nl, nt, cl + 1, 0, vd, lk, upd op (p * 8 + n) o, upd ar (p * 8 + n) a, upd ln p (nI (n + 1)), en, so, lv, ed, pa, fp, fc, dp, hd, hc)) : wpX_emit post (nl, nt, cl, 0, vd, lk, op, ar, ln, en, so, lv, ed, pa, fp, fc, dp, hd, hc) (nI p) o g := by
  have c1 : (nI p).toNatClampNeg = p := nI_clamp (by omega)
  have hi : vp_in (nI p) 8 := vp_in_nI hp8 (by decide)
  refine br_t rfl (br_f (nI_pos (by omega)) (br_f (nI_ge (b := 8) hp8 (by decide)) (br_f ll_1n0 (br_f ho0 (br_t ho3 ?_)))))
  refine hfit _ ?_
  refine br_f ll_1n0 ⟨hi, nm_r (e' := nI n) (by rw [c1]; exact hl) (pk_le 8 n (fun h => hfull (Or.inl h)) (fun h => br_c (fun hcl => ?_) (fun hcl => hfull (Or.inr hcl))))⟩
  have hok' := hok h hcl
  have c2 : (nI (p * 8 + n)).toNatClampNeg = p * 8 + n := nI_clamp (by omega)
  have hz : vp_in (nI (p * 8 + n)) 64 := vp_in_nI (by omega) (by decide)
  refine nm_r (e' := nI (p * 8 + n)) (ll_cel p n) ⟨hz, nm_r (e' := upd op (p * 8 + n) o) (by rw [c2]) ?_⟩
  have fin : wX_emit_103 post (nI p) (nI n) a (nI (p * 8 + n)) nl nt cl 0 vd lk (upd op (p * 8 + n) o) ar ln en so lv ed pa fp fc dp hd hc :=
    And.intro hz (nm_r (e' := upd ar (p * 8 + n) a) (by rw [c2]) ⟨hi, nm_r (e' := upd ln p (nI (n + 1))) (by rw [c1, nI_1]) (nm_e hok')⟩)
  rcases hoa with ⟨h0, ha⟩ | ⟨h0, ha⟩
  · subst ha
    exact br_t h0 fin
  · subst ha
    exact br_f h0 fin
theorem ly_em {post : Int32 → SY → Prop} {p n : Nat} {o a : Int32} (hp8 : p < 8) (hl : ln p = nI n) (hn8 : n ≤ 8) (hfull : 8 ≤ n ∨ ¬ cl < 32 → post (-5) (nl, nt, cl, se, vd, rc, op, ar, ln, en, so, ed, re, lv, hd, hc, fp, fc, dp)) (hok : n < 8 → cl < 32 → post (nI n) (nl, nt, cl + 1, se, vd, rc, upd op (p * 8 + n) o, upd ar (p * 8 + n) a, upd ln p (nI (n + 1)), en, so, ed, re, lv, hd, hc, fp, fc, dp)) : wY_emit_84 post (nI p) o a nl nt cl se vd rc op ar ln en so ed re lv hd hc fp fc dp := by
  have c1 : (nI p).toNatClampNeg = p := nI_clamp (by omega)
  have hi : vp_in (nI p) 8 := vp_in_nI hp8 (by decide)
  refine And.intro hi (pk_le 8 n (fun h => hfull (Or.inl h)) (fun h => br_c (fun hcl => ?_) (fun hcl => hfull (Or.inr hcl))) rfl (by rw [c1]; exact hl))
  have hok' := hok h hcl
  have c2 : (nI (p * 8 + n)).toNatClampNeg = p * 8 + n := nI_clamp (by omega)
  have hz : vp_in (nI (p * 8 + n)) 64 := vp_in_nI (by omega) (by decide)
  refine ⟨hi, nm_r (e' := nI n) (by rw [c1]; exact hl) ?_⟩
  rw [ll_cel p n, c2, c1]
  exact ⟨hz, nm_e ⟨hz, nm_e ⟨hi, nm_r (e' := upd ln p (nI (n + 1))) (by rw [nI_1]) (nm_e hok')⟩⟩⟩
theorem ll_o4 {o : Int32} (h0 : ¬ o < 0) (h3 : o ≤ 3) : o = 0 ∨ o = 1 ∨ o = 2 ∨ o = 3 := by
  obtain ⟨j, hj, rfl⟩ := nI_of2 (n := 3) (by decide) h0 h3
  have : j = 0 ∨ j = 1 ∨ j = 2 ∨ j = 3 := by omega
  rcases this with rfl | rfl | rfl | rfl
  · exact Or.inl rfl
  · exact Or.inr (Or.inl rfl)
  · exact Or.inr (Or.inr (Or.inl rfl))
  · exact Or.inr (Or.inr (Or.inr rfl))
theorem ll_ge0 {T : Nat} {x : Int32} (hT : T < 2 ^ 31) (hx : nI T ≤ x) : ¬ x < 0 := fun q => nI_pos hT (Int32.lt_of_le_of_lt hx q)
theorem ll_gel {T : Nat} {x : Int32} (hx : nI T ≤ x) : ¬ x < nI T := fun q => Int32.lt_irrefl (Int32.lt_of_lt_of_le q hx)
theorem ll_7 {x : Int32} (h : (8 : Int32) ≤ x) : ¬ x ≤ 7 := fun q => absurd (Int32.le_trans h q) (by decide)
theorem ll_7n {p : Nat} (h : p < 8) : nI p ≤ 7 := nI_le (b := 7) (by omega) (by decide)
end
theorem i_vc0 (k0 : Int32) (k1 : Int32) : wpX_init (fun u => wpY_init (fun v => i_Rel 2 u v) k0 k1) k0 k1 := by
  obtain ⟨L, hL2, hL, cL⟩ := ll_clamp k0 2 8 (by omega) (by decide)
  obtain ⟨T, hT1, hT, cT⟩ := ll_clamp k1 1 4 (by omega) (by decide)
  have cLX : ∀ post : Int32 → Prop, post (nI L) → wpX_clamp post k0 2 8 := fun post hp => cL post hp
  have cTX : ∀ post : Int32 → Prop, post (nI T) → wpX_clamp post k1 1 4 := fun post hp => cT post hp
  unfold wpX_init
  refine cLX _ ?_
  refine cTX _ ?_
  refine ⟨5, ?_⟩
  refine ek_v (P := fun z => wX_init_148 _ (nI L) (nI T) 0 0 (-1) (-1) 5 0 (fun _ => 0) (fun _ => 0) (fun _ => 0) z (fun _ => 0) (fun _ => 0) (fun _ => 0) (fun _ => 0) (fun _ => 0) (fun _ => 0) (fun _ => 0) (fun _ => 0) (fun _ => 0)) (ll_cp_0 nI (fun _ => 0)).symm ?_
  refine lx_in2 ?_ 4 5 0 (by omega) (by omega)
  refine cL (fun z => wY_init_127 (fun v => i_Rel 2 _ v) k1 z 0 0 0 0 0 0 (fun _ => 0) (fun _ => 0) (fun _ => 0) (fun _ => 0) (fun _ => 0) (fun _ => 0) (fun _ => 0) (fun _ => 0) (fun _ => 0) (fun _ => 0) (fun _ => 0) (fun _ => 0) (fun _ => 0)) ?_
  refine cT (fun z => ∃ n, wY_init_155 (fun v => i_Rel 2 _ v) (nI L) z 0 0 0 0 n 0 (fun _ => 0) (fun _ => 0) (fun _ => 0) (fun _ => 0) (fun _ => 0) (fun _ => 0) (fun _ => 0) (fun _ => 0) (fun _ => 0) (fun _ => 0) (fun _ => 0) (fun _ => 0) (fun _ => 0)) ?_
  refine ⟨5, ?_⟩
  refine ek_v (P := fun z => wY_init_155 _ (nI L) (nI T) 0 0 0 0 5 0 (fun _ => 0) (fun _ => 0) (fun _ => 0) z (fun _ => 0) (fun _ => 0) (fun _ => 0) (fun _ => 0) (fun _ => 0) (fun _ => 0) (fun _ => 0) (fun _ => 0) (fun _ => 0)) (ll_cp_0 nI (fun _ => 0)).symm ?_
  refine ly_in2 ?_ 4 5 0 (by omega) (by omega)
  refine ⟨L, T, 0, 0, -1, -1, 0, _, _, _, _, _, _, _, _, _, _, _, _, _, _, _, _, _, rfl, rfl, hL2, hL, hT1, hT, ?_, ?_, ?_, Or.inl ⟨rfl, rfl, rfl, fun _ _ => rfl, fun _ _ => rfl, fun _ _ => rfl⟩⟩
  · exact fun p _ => ⟨0, by omega, rfl, fun i hi => absurd hi (by omega)⟩
  · exact fun t ht => ⟨t, by omega, ll_cp_t ht⟩
  · exact ⟨ll_B0, fun a b _ _ h => absurd rfl h⟩
theorem i_vc_emit {k : Nat} {u : SX} {v : SY} (I : i_Rel k u v) (hk : k + 4 ≤ 2050) (v1 : Int32) (v2 : Int32) (v3 : Int32) : wpX_emit (fun r u' => wpY_emit (fun r' v' => r' = r ∧ i_Rel (k + 4) u' v') v v1 v2 v3) u v1 v2 v3 := by
  have I0 := I
  obtain ⟨L, T, cl, se, vd, lk, vy, op, ar, ln, en, so, lv, ed, pa, fp, fc, dp, hd, hc, re, lw, hy, cy, rfl, rfl, hL2, hL, hT1, hT, C, hen, B, M⟩ := I
  rcases M with ⟨rfl, rfl, rfl, hlv, hlw, hdp⟩ | ⟨rfl, M⟩
  · rcases pk_ix v1 (n := 8) (by decide) with h1 | h1 | ⟨p, hp8, rfl⟩
    · exact br_t rfl (br_t h1 (br_t rfl (br_t rfl (br_t h1 ⟨rfl, I0⟩))))
    · have h0 := ll_ge0 (by decide) h1
      exact br_t rfl (br_f h0 (br_t h1 (br_t rfl (br_t rfl (br_f h0 (br_f (ll_7 h1) ⟨rfl, I0⟩))))))
    · have q1 : ¬ nI p < 0 := nI_pos (by omega)
      have q2 : ¬ 8 ≤ nI p := nI_ge (b := 8) hp8 (by decide)
      have q3 := ll_7n hp8
      by_cases h2 : v2 < 0
      · exact br_t rfl (br_f q1 (br_f q2 (br_f ll_1n0 (br_t h2 (br_t rfl (br_f q1 (br_t q3 (br_t h2 ⟨rfl, I0⟩))))))))
      · by_cases h3 : v2 ≤ 3
        · obtain ⟨n, hn8, hl, _⟩ := C p hp8
          have rel : ∀ a, (v2 = 0 ∨ (v2 = 1 ∧ ∃ b, b < L ∧ a = nI b) ∨ (v2 = 2 ∧ ∃ b, b < L ∧ a = nI b) ∨ (v2 = 3 ∧ ∃ b, p < b ∧ b < 8 ∧ a = nI b)) → n < 8 → i_Rel (k + 4) (nI L, nI T, cl + 1, 0, -1, -1, upd op (p * 8 + n) v2, upd ar (p * 8 + n) a, upd ln p (nI (n + 1)), en, so, lv, ed, pa, fp, fc, dp, hd, hc) (nI L, nI T, cl + 1, 0, vy, 0, upd op (p * 8 + n) v2, upd ar (p * 8 + n) a, upd ln p (nI (n + 1)), en, so, ed, re, lw, hy, cy, fp, fc, dp) := by
            intro a hok hn
            exact ⟨L, T, _, _, _, _, _, _, _, _, _, _, _, _, _, _, _, _, _, _, _, _, _, _, rfl, rfl, hL2, hL, hT1, hT, ll_CIu C hp8 hl hn hok, hen, B, Or.inl ⟨rfl, rfl, rfl, hlv, hlw, hdp⟩⟩
          have go : ∀ a, (v2 = 0 ∨ (v2 = 1 ∧ ∃ b, b < L ∧ a = nI b) ∨ (v2 = 2 ∧ ∃ b, b < L ∧ a = nI b) ∨ (v2 = 3 ∧ ∃ b, p < b ∧ b < 8 ∧ a = nI b)) → ((v2 = 0 ∧ a = 0) ∨ (¬ v2 = 0 ∧ a = v3)) → (∀ post' : Int32 → Prop, post' 1 → wpX_argumentFits post' (nI L, nI T, cl, 0, -1, -1, op, ar, ln, en, so, lv, ed, pa, fp, fc, dp, hd, hc) (nI p) v2 v3) → (∀ post : Int32 → SY → Prop, wY_emit_84 post (nI p) v2 a (nI L) (nI T) cl 0 vy 0 op ar ln en so ed re lw hy cy fp fc dp → wpY_emit post (nI L, nI T, cl, 0, vy, 0, op, ar, ln, en, so, ed, re, lw, hy, cy, fp, fc, dp) (nI p) v2 v3) → wpX_emit (fun r u' => wpY_emit (fun r' v' => r' = r ∧ i_Rel (k + 4) u' v') (nI L, nI T, cl, 0, vy, 0, op, ar, ln, en, so, ed, re, lw, hy, cy, fp, fc, dp) (nI p) v2 v3) (nI L, nI T, cl, 0, -1, -1, op, ar, ln, en, so, lv, ed, pa, fp, fc, dp, hd, hc) (nI p) v2 v3 := by
            intro a hok hoa hfit hY
            refine lx_em (a := a) hp8 hl hn8 h2 h3 hfit hoa (fun hf => hY _ (ly_em hp8 hl hn8 (fun _ => ⟨rfl, I0⟩) (fun z1 z2 => ?_))) (fun z1 z2 => hY _ (ly_em hp8 hl hn8 (fun hf => ?_) (fun _ _ => ⟨rfl, rel a hok z1⟩)))
            · rcases hf with hf | hf
              · omega
              · exact absurd z2 hf
            · rcases hf with hf | hf
              · omega
              · exact absurd z2 hf
          have no : (∀ post' : Int32 → Prop, post' 0 → wpX_argumentFits post' (nI L, nI T, cl, 0, -1, -1, op, ar, ln, en, so, lv, ed, pa, fp, fc, dp, hd, hc) (nI p) v2 v3) → (∀ post : Int32 → SY → Prop, post (-4) (nI L, nI T, cl, 0, vy, 0, op, ar, ln, en, so, ed, re, lw, hy, cy, fp, fc, dp) → wpY_emit post (nI L, nI T, cl, 0, vy, 0, op, ar, ln, en, so, ed, re, lw, hy, cy, fp, fc, dp) (nI p) v2 v3) → wpX_emit (fun r u' => wpY_emit (fun r' v' => r' = r ∧ i_Rel (k + 4) u' v') (nI L, nI T, cl, 0, vy, 0, op, ar, ln, en, so, ed, re, lw, hy, cy, fp, fc, dp) (nI p) v2 v3) (nI L, nI T, cl, 0, -1, -1, op, ar, ln, en, so, lv, ed, pa, fp, fc, dp, hd, hc) (nI p) v2 v3 := by
            intro hfit hY
            refine br_t rfl (br_f q1 (br_f q2 (br_f ll_1n0 (br_f h2 (br_t h3 ?_)))))
            exact hfit _ (br_t rfl (hY _ ⟨rfl, I0⟩))
          rcases ll_o4 h2 h3 with rfl | rfl | rfl | rfl
          · refine go 0 (Or.inl rfl) (Or.inl ⟨rfl, rfl⟩) (fun post' hp => br_t rfl hp) (fun post hp => br_t rfl (br_f q1 (br_t q3 (br_f h2 (br_t h3 (br_f (by decide) (br_f (by decide) (br_f (by decide) hp))))))))
          · rcases pk_ix v3 (n := L) (by omega) with g | g | ⟨b, hb, rfl⟩
            · exact no (fun post' hp => br_f (by decide) (br_f (by decide) (lx_lock0 (Or.inl g) ⟨rfl, hp⟩))) (fun post hp => br_t rfl (br_f q1 (br_t q3 (br_f h2 (br_t h3 (br_t rfl (br_t g hp)))))))
            · exact no (fun post' hp => br_f (by decide) (br_f (by decide) (lx_lock0 (Or.inr g) ⟨rfl, hp⟩))) (fun post hp => br_t rfl (br_f q1 (br_t q3 (br_f h2 (br_t h3 (br_t rfl (br_f (ll_ge0 (by omega) g) (br_f (ll_gel g) hp))))))))
            · exact go (nI b) (Or.inr (Or.inl ⟨rfl, b, hb, rfl⟩)) (Or.inr ⟨by decide, rfl⟩) (fun post' hp => br_f (by decide) (br_f (by decide) (lx_lock1 hb hL ⟨rfl, hp⟩))) (fun post hp => br_t rfl (br_f q1 (br_t q3 (br_f h2 (br_t h3 (br_t rfl (br_f (nI_pos (by omega)) (br_t (nI_lt hb (by omega)) hp))))))))
          · rcases pk_ix v3 (n := L) (by omega) with g | g | ⟨b, hb, rfl⟩
            · exact no (fun post' hp => br_f (by decide) (br_f (by decide) (lx_lock0 (Or.inl g) ⟨rfl, hp⟩))) (fun post hp => br_t rfl (br_f q1 (br_t q3 (br_f h2 (br_t h3 (br_f (by decide) (br_t rfl (br_t g hp))))))))
            · exact no (fun post' hp => br_f (by decide) (br_f (by decide) (lx_lock0 (Or.inr g) ⟨rfl, hp⟩))) (fun post hp => br_t rfl (br_f q1 (br_t q3 (br_f h2 (br_t h3 (br_f (by decide) (br_t rfl (br_f (ll_ge0 (by omega) g) (br_f (ll_gel g) hp)))))))))
            · exact go (nI b) (Or.inr (Or.inr (Or.inl ⟨rfl, b, hb, rfl⟩))) (Or.inr ⟨by decide, rfl⟩) (fun post' hp => br_f (by decide) (br_f (by decide) (lx_lock1 hb hL ⟨rfl, hp⟩))) (fun post hp => br_t rfl (br_f q1 (br_t q3 (br_f h2 (br_t h3 (br_f (by decide) (br_t rfl (br_f (nI_pos (by omega)) (br_t (nI_lt hb (by omega)) hp)))))))))
          · by_cases g : v3 ≤ nI p
            · exact no (fun post' hp => br_f (by decide) (br_t rfl (br_t g hp))) (fun post hp => br_t rfl (br_f q1 (br_t q3 (br_f h2 (br_t h3 (br_f (by decide) (br_f (by decide) (br_t rfl (br_t g hp)))))))))
            · by_cases g8 : 8 ≤ v3
              · exact no (fun post' hp => br_f (by decide) (br_t rfl (br_f g (br_t g8 hp)))) (fun post hp => br_t rfl (br_f q1 (br_t q3 (br_f h2 (br_t h3 (br_f (by decide) (br_f (by decide) (br_t rfl (br_f g (br_f (ll_7 g8) hp))))))))))
              · have g0 : ¬ v3 < 0 := fun q => g (Int32.le_of_lt (Int32.lt_of_lt_of_le q (nI_pos' (by omega))))
                obtain ⟨b, hb, rfl⟩ := ll_ix (n := 8) g0 g8 (by decide)
                have hpb : p < b := by
                  rw [nI_leI (by omega) (by omega)] at g
                  omega
                exact go (nI b) (Or.inr (Or.inr (Or.inr ⟨rfl, b, hpb, hb, rfl⟩))) (Or.inr ⟨by decide, rfl⟩) (fun post' hp => br_f (by decide) (br_t rfl (br_f g (br_f g8 hp)))) (fun post hp => br_t rfl (br_f q1 (br_t q3 (br_f h2 (br_t h3 (br_f (by decide) (br_f (by decide) (br_t rfl (br_f g (br_t (ll_7n hb) hp))))))))))
        · exact br_t rfl (br_f q1 (br_f q2 (br_f ll_1n0 (br_f h2 (br_f h3 (br_t rfl (br_f q1 (br_t q3 (br_f h2 (br_f h3 ⟨rfl, I0⟩))))))))))
  · exact br_f ll_1n0 (br_f ll_1n0 ⟨rfl, I0⟩)
theorem i_vc_setEntry {k : Nat} {u : SX} {v : SY} (I : i_Rel k u v) (hk : k + 4 ≤ 2050) (v1 : Int32) (v2 : Int32) : wpX_setEntry (fun r u' => wpY_setEntry (fun r' v' => r' = r ∧ i_Rel (k + 4) u' v') v v1 v2) u v1 v2 := by
  have I0 := I
  obtain ⟨L, T, cl, se, vd, lk, vy, op, ar, ln, en, so, lv, ed, pa, fp, fc, dp, hd, hc, re, lw, hy, cy, rfl, rfl, hL2, hL, hT1, hT, C, hen, B, M⟩ := I
  rcases M with ⟨rfl, rfl, rfl, M⟩ | ⟨rfl, M⟩
  · rcases pk_ix v1 (n := T) (by omega) with h1 | h1 | ⟨t, ht, rfl⟩
    · exact br_t rfl (lx_thr0 (Or.inl h1) (br_t rfl (br_t rfl (br_t h1 ⟨rfl, I0⟩))))
    · exact br_t rfl (lx_thr0 (Or.inr h1) (br_t rfl (br_t rfl (br_f (ll_ge0 (by omega) h1) (br_t h1 ⟨rfl, I0⟩)))))
    · have q1 : ¬ nI t < 0 := nI_pos (by omega)
      have q2 : ¬ nI T ≤ nI t := nI_ge ht (by omega)
      rcases pk_ix v2 (n := 8) (by decide) with h2 | h2 | ⟨p, hp8, rfl⟩
      · exact br_t rfl (lx_thr1 ht hT (br_f ll_1n0 (br_t h2 (br_t rfl (br_t rfl (br_f q1 (br_f q2 (br_t h2 ⟨rfl, I0⟩))))))))
      · have h0 := ll_ge0 (by decide) h2
        exact br_t rfl (lx_thr1 ht hT (br_f ll_1n0 (br_f h0 (br_t h2 (br_t rfl (br_t rfl (br_f q1 (br_f q2 (br_f h0 (br_f (ll_7 h2) ⟨rfl, I0⟩))))))))))
      · have c1 : (nI t).toNatClampNeg = t := nI_clamp (by omega)
        have hi : vp_in (nI t) 4 := vp_in_nI (by omega) (by decide)
        refine br_t rfl (lx_thr1 ht hT (br_f ll_1n0 (br_f (nI_pos (by omega)) (br_f (nI_ge (b := 8) hp8 (by decide)) (br_f ll_1n0 ⟨hi, nm_r (e' := upd en t (nI p)) (by rw [c1]) ?_⟩)))))
        refine br_t rfl (br_f q1 (br_f q2 (br_f (nI_pos (by omega)) (br_t (ll_7n hp8) ⟨hi, nm_r (e' := upd en t (nI p)) (by rw [c1]) ⟨rfl, ?_⟩⟩))))
        refine ⟨L, T, _, _, _, _, _, _, _, _, _, _, _, _, _, _, _, _, _, _, _, _, _, _, rfl, rfl, hL2, hL, hT1, hT, C, fun s hs => ?_, B, Or.inl ⟨rfl, rfl, rfl, M⟩⟩
        by_cases e : s = t
        · rw [e, pk_us]
          exact ⟨p, hp8, rfl⟩
        · rw [pk_un e]
          exact hen s hs
  · exact br_f ll_1n0 (br_f ll_1n0 ⟨rfl, I0⟩)
end
section
/-! the other owed statements -/
section
variable {nl nt cl se vd lk rc vy : Int32} {op ar ln en so lv lw ed pa re fp fc dp hd hc hy cy fp' fc' dp' : Nat → Int32}
theorem ly_cyc {post : Int32 → Prop} {l : Nat} (h8 : l < 8) (h1 : ¬ re (l * 8 + l) = 0) (h0 : ∀ j, j < l → re (j * 8 + j) = 0) (hp : post (nI l)) : ∀ (r n k : Nat), k + r = l → r < n → wY_cycleLock_19 post nl nt cl se vd rc op ar ln en so ed re lv hd hc fp fc dp n (nI k) := by
  intro r
  induction r with
  | zero =>
    intro n k hk hn
    obtain ⟨n, rfl⟩ : ∃ m, n = m + 1 := ⟨n - 1, by omega⟩
    have e : k = l := by omega
    subst e
    have c1 : (nI (k * 8 + k)).toNatClampNeg = k * 8 + k := nI_clamp (by omega)
    refine pk_le 8 k (fun h => absurd h (by omega)) (fun _ => ?_)
    rw [ll_cel k k, c1]
    exact And.intro (vp_in_nI (by omega) (by decide)) (br_f h1 hp)
  | succ r ih =>
    intro n k hk hn
    obtain ⟨n, rfl⟩ : ∃ m, n = m + 1 := ⟨n - 1, by omega⟩
    have c1 : (nI (k * 8 + k)).toNatClampNeg = k * 8 + k := nI_clamp (by omega)
    refine pk_le 8 k (fun h => absurd h (by omega)) (fun _ => ?_)
    rw [ll_cel k k, c1]
    exact And.intro (vp_in_nI (by omega) (by decide)) (br_t (h0 k (by omega)) (nm_r (nI_1 k) (ih n (k + 1) (by omega) (by omega))))
end
theorem i_vc_check {k : Nat} {u : SX} {v : SY} (I : i_Rel k u v) (hk : k + 4 ≤ 2050) : wpX_check (fun r u' => wpY_check (fun r' v' => r' = r ∧ i_Rel (k + 4) u' v') v) u := by
  have I0 := I
  obtain ⟨L, T, cl, se, vd, lk, vy, op, ar, ln, en, so, lv, ed, pa, fp, fc, dp, hd, hc, re, lw, hy, cy, rfl, rfl, hL2, hL, hT1, hT, C, hen, B, M⟩ := I
  rcases M with ⟨rfl, rfl, rfl, hlv, hlw, hdp⟩ | ⟨rfl, rfl, M⟩
  · obtain ⟨so', fp', fc', dp', hd', hc', hy', cy', ed', S', B', hso, cX, cY⟩ := lm_checks (cl := cl) (se := 1) (vd := -1) (lk := -1) (vy := vy) (lv := lv) (lw := lw) (pa := pa) (re := re) hL hT C hen T 0 so fp fc dp hd hc hy cy ed (by omega) (ll_TS0 hT hdp) B (fun s hs => absurd hs (by omega))
    obtain ⟨fp2, fc2, dp2, S2, rX, rY⟩ := lm_restart hL hT C hen S'
    refine br_t rfl ⟨T + 1, cX _ (T + 1) (by omega) (fun n => ?_)⟩
    refine pk_le T T (fun _ => ?_) (fun h => absurd h (by omega))
    by_cases lg : ∃ s, s < T ∧ so' s = nI 513
    · refine lx_verL hT hso lg ?_
      refine rX _ _ _ _ _ _ _ _ _ _ _ ?_
      refine br_t rfl ⟨T + 1, cY _ (T + 1) (by omega) (fun n => ?_)⟩
      refine pk_le T T (fun _ => ?_) (fun h => absurd h (by omega))
      refine ly_verL hT hso lg ?_
      unfold wY_check_362
      refine rY _ _ _ _ _ _ _ _ _ _ _ ?_
      refine ⟨rfl, L, T, _, _, _, _, _, _, _, _, _, _, _, _, _, _, _, _, _, _, _, _, _, _, rfl, rfl, hL2, hL, hT1, hT, C, hen, ?_, Or.inr ⟨rfl, rfl, S2, ll_LKf hL, fun z => absurd z (by decide), Or.inr ⟨by decide, rfl⟩⟩⟩
      refine ⟨fun j => ?_, fun a b ha hb h => ?_⟩
      · by_cases x : j < 64
        · rw [ll_fl_t x]; exact Or.inl rfl
        · rw [ll_fl_f (by omega)]; exact B'.1 j
      · rw [ll_fl_t (by omega)] at h
        exact absurd rfl h
    · have hs : ∀ s, s < T → ∃ m, m ≤ 512 ∧ so' s = nI m := by
        intro s hs
        obtain ⟨m, hm, e⟩ := hso s hs
        have x : m ≠ 513 := fun x => lg ⟨s, hs, by rw [e, x]⟩
        exact ⟨m, by omega, e⟩
      refine lx_verN hL2 hL hT hs B' hlv (fun pa' l hl hP hlo => ?_) (fun pa' lv' lev' hac q1 q2 => ?_)
      · refine rX _ _ _ _ _ _ _ _ _ _ _ ?_
        refine br_t rfl ⟨T + 1, cY _ (T + 1) (by omega) (fun n => ?_)⟩
        refine pk_le T T (fun _ => ?_) (fun h => absurd h (by omega))
        refine ly_verN hL hT hs B' hlw (fun re' J _ => ?_) (fun re' lv' lev' hac _ _ => absurd hP (hac l))
        unfold wY_check_362
        refine rY _ _ _ _ _ _ _ _ _ _ _ ?_
        refine ⟨rfl, L, T, _, _, _, _, _, _, _, _, _, _, _, _, _, _, _, _, _, _, _, _, _, _, rfl, rfl, hL2, hL, hT1, hT, C, hen, B', Or.inr ⟨rfl, rfl, S2, ll_LKf hL, fun z => absurd z (by decide), Or.inl ⟨rfl, l, hl, rfl, (J l l (by omega) (by omega)).mpr hP, fun j hj => ?_⟩⟩⟩
        by_cases x : re' (j * 8 + j) = 0
        · exact x
        · exact absurd ((J j j (by omega) (by omega)).mp x) (hlo j hj)
      · refine rX _ _ _ _ _ _ _ _ _ _ _ ?_
        refine br_t rfl ⟨T + 1, cY _ (T + 1) (by omega) (fun n => ?_)⟩
        refine pk_le T T (fun _ => ?_) (fun h => absurd h (by omega))
        refine ly_verN hL hT hs B' hlw (fun re' J hc => ?_) (fun re' lw' lev2 _ q3 q4 => ?_)
        · obtain ⟨l, hl⟩ := hc
          exact absurd hl (hac l)
        · unfold wY_check_362
          refine rY _ _ _ _ _ _ _ _ _ _ _ ?_
          refine ⟨rfl, L, T, _, _, _, _, _, _, _, _, _, _, _, _, _, _, _, _, _, _, _, _, _, _, rfl, rfl, hL2, hL, hT1, hT, C, hen, B', Or.inr ⟨rfl, rfl, S2, ll_LKf hL, fun _ l hl => ?_, Or.inr ⟨by decide, rfl⟩⟩⟩
          rw [q1 l (by omega), q3 l (by omega), gr_uniq (ll_Edom B') hac q4 q2 (by omega) (by omega) l]
  · exact br_f ll_1n0 (br_f ll_1n0 ⟨rfl, I0⟩)
theorem i_vc_restart {k : Nat} {u : SX} {v : SY} (I : i_Rel k u v) (hk : k + 4 ≤ 2050) : wpX_restart (fun r u' => wpY_restart (fun r' v' => r' = r ∧ i_Rel (k + 4) u' v') v) u := by
  have I0 := I
  obtain ⟨L, T, cl, se, vd, lk, vy, op, ar, ln, en, so, lv, ed, pa, fp, fc, dp, hd, hc, re, lw, hy, cy, rfl, rfl, hL2, hL, hT1, hT, C, hen, B, M⟩ := I
  rcases M with ⟨rfl, M⟩ | ⟨rfl, rfl, S, K, M1, M2⟩
  · exact br_t rfl (br_t rfl ⟨rfl, I0⟩)
  · obtain ⟨fp2, fc2, dp2, S2, rX, rY⟩ := lm_restart hL hT C hen S
    refine br_f ll_1n0 ?_
    refine rX _ _ _ _ _ _ _ _ _ _ _ ?_
    refine br_f ll_1n0 ?_
    refine rY _ _ _ _ _ _ _ _ _ _ _ ?_
    exact ⟨rfl, L, T, _, _, _, _, _, _, _, _, _, _, _, _, _, _, _, _, _, _, _, _, _, _, rfl, rfl, hL2, hL, hT1, hT, C, hen, B, Or.inr ⟨rfl, rfl, S2, ll_LKf hL, M1, M2⟩⟩
theorem i_vc_step {k : Nat} {u : SX} {v : SY} (I : i_Rel k u v) (hk : k + 4 ≤ 2050) (v1 : Int32) : wpX_step (fun r u' => wpY_step (fun r' v' => r' = r ∧ i_Rel (k + 4) u' v') v v1) u v1 := by
  have I0 := I
  obtain ⟨L, T, cl, se, vd, lk, vy, op, ar, ln, en, so, lv, ed, pa, fp, fc, dp, hd, hc, re, lw, hy, cy, rfl, rfl, hL2, hL, hT1, hT, C, hen, B, M⟩ := I
  rcases M with ⟨rfl, M⟩ | ⟨rfl, rfl, S, K, M1, M2⟩
  · exact br_t rfl (br_t rfl ⟨rfl, I0⟩)
  · obtain ⟨r, fp', fc', dp', hd', hc', hy', cy', S', K', sX, sY⟩ := lm_step hL hT C S K v1
    refine sX _ ?_
    refine sY _ ?_
    exact ⟨rfl, L, T, _, _, _, _, _, _, _, _, _, _, _, _, _, _, _, _, _, _, _, _, _, _, rfl, rfl, hL2, hL, hT1, hT, C, hen, B, Or.inr ⟨rfl, rfl, S', K', M1, M2⟩⟩
theorem i_vc_run {k : Nat} {u : SX} {v : SY} (I : i_Rel k u v) (hk : k + 4 ≤ 2050) (v1 : Int32) (v2 : Int32) : wpX_run (fun r u' => wpY_run (fun r' v' => r' = r ∧ i_Rel (k + 4) u' v') v v1 v2) u v1 v2 := by
  have I0 := I
  obtain ⟨L, T, cl, se, vd, lk, vy, op, ar, ln, en, so, lv, ed, pa, fp, fc, dp, hd, hc, re, lw, hy, cy, rfl, rfl, hL2, hL, hT1, hT, C, hen, B, M⟩ := I
  rcases M with ⟨rfl, M⟩ | ⟨rfl, rfl, S, K, M1, M2⟩
  · exact br_t rfl (br_t rfl ⟨rfl, I0⟩)
  · obtain ⟨N, _, hN, cN⟩ := ll_clamp v2 0 1024 (by omega) (by decide)
    have cNX : ∀ post : Int32 → Prop, post (nI N) → wpX_clamp post v2 0 1024 := fun post hp => cN post hp
    obtain ⟨c', fp', fc', dp', hd', hc', hy', cy', S', K', sX, sY⟩ := lm_run (v := v1) hL hT1 hT hN C N 0 0 fp fc dp hd hc hy cy (by omega) S K
    refine br_f ll_1n0 ?_
    refine cNX _ ?_
    refine ⟨N + 1, sX _ (N + 1) (by omega) ?_⟩
    refine br_f ll_1n0 ?_
    refine cN (fun z => ∃ n, wY_run_38 _ v1 z n 0 0 (nI L) (nI T) cl 1 vy 0 op ar ln en so ed re lw hy cy fp fc dp) ?_
    refine ⟨N + 1, sY _ (N + 1) (by omega) ?_⟩
    exact ⟨rfl, L, T, _, _, _, _, _, _, _, _, _, _, _, _, _, _, _, _, _, _, _, _, _, _, rfl, rfl, hL2, hL, hT1, hT, C, hen, B, Or.inr ⟨rfl, rfl, S', K', M1, M2⟩⟩
theorem i_vc_order {k : Nat} {u : SX} {v : SY} (I : i_Rel k u v) (hk : k + 4 ≤ 2050) (v1 : Int32) (v2 : Int32) : wpX_order (fun r => wpY_order (fun r' => r' = r ∧ i_Rel (k + 4) u v) v v1 v2) u v1 v2 := by
  have I0 := I
  obtain ⟨L, T, cl, se, vd, lk, vy, op, ar, ln, en, so, lv, ed, pa, fp, fc, dp, hd, hc, re, lw, hy, cy, rfl, rfl, hL2, hL, hT1, hT, C, hen, B, M⟩ := I
  rcases M with ⟨rfl, M⟩ | ⟨rfl, rfl, M⟩
  · exact br_t rfl (br_t rfl ⟨rfl, I0⟩)
  · rcases pk_ix v1 (n := L) (by omega) with h1 | h1 | ⟨a, ha, rfl⟩
    · exact br_f ll_1n0 (lx_lock0 (Or.inl h1) (br_t rfl (br_f ll_1n0 (br_t h1 ⟨rfl, I0⟩))))
    · exact br_f ll_1n0 (lx_lock0 (Or.inr h1) (br_t rfl (br_f ll_1n0 (br_f (ll_ge0 (by omega) h1) (br_t h1 ⟨rfl, I0⟩)))))
    · have q1 : ¬ nI a < 0 := nI_pos (by omega)
      have q2 : ¬ nI L ≤ nI a := nI_ge ha (by omega)
      rcases pk_ix v2 (n := L) (by omega) with h2 | h2 | ⟨b, hb, rfl⟩
      · exact br_f ll_1n0 (lx_lock1 ha hL (br_f ll_1n0 (lx_lock0 (Or.inl h2) (br_t rfl (br_f ll_1n0 (br_f q1 (br_f q2 (br_t h2 ⟨rfl, I0⟩))))))))
      · exact br_f ll_1n0 (lx_lock1 ha hL (br_f ll_1n0 (lx_lock0 (Or.inr h2) (br_t rfl (br_f ll_1n0 (br_f q1 (br_f q2 (br_f (ll_ge0 (by omega) h2) (br_f (ll_gel h2) ⟨rfl, I0⟩)))))))))
      · have c1 : (nI (a * 8 + b)).toNatClampNeg = a * 8 + b := nI_clamp (by omega)
        have hi : vp_in (nI (a * 8 + b)) 64 := vp_in_nI (by omega) (by decide)
        have hY : ∀ post : Int32 → Prop, post (ed (a * 8 + b)) → wpY_order post (nI L, nI T, cl, 1, vy, 0, op, ar, ln, en, so, ed, re, lw, hy, cy, fp, fc, dp) (nI a) (nI b) := by
          intro post hp
          refine br_f ll_1n0 (br_f q1 (br_f q2 (br_f (nI_pos (by omega)) (br_t (nI_lt hb (by omega)) ?_))))
          rw [ll_cel a b, c1]
          exact ⟨hi, ll_bnn (B.1 _), hp⟩
        refine br_f ll_1n0 (lx_lock1 ha hL (br_f ll_1n0 (lx_lock1 hb hL (br_f ll_1n0 ?_))))
        rw [ll_cel a b, c1]
        refine ⟨hi, br_c (fun z => hY _ ⟨z, I0⟩) (fun z => hY _ ⟨?_, I0⟩)⟩
        exact (B.1 (a * 8 + b)).resolve_left z
theorem i_vc_level {k : Nat} {u : SX} {v : SY} (I : i_Rel k u v) (hk : k + 4 ≤ 2050) (v1 : Int32) : wpX_level (fun r => wpY_level (fun r' => r' = r ∧ i_Rel (k + 4) u v) v v1) u v1 := by
  have I0 := I
  obtain ⟨L, T, cl, se, vd, lk, vy, op, ar, ln, en, so, lv, ed, pa, fp, fc, dp, hd, hc, re, lw, hy, cy, rfl, rfl, hL2, hL, hT1, hT, C, hen, B, M⟩ := I
  rcases M with ⟨rfl, rfl, rfl, M⟩ | ⟨rfl, rfl, M0, M1, M2, M3⟩
  · exact br_f (by decide) (br_t rfl ⟨rfl, I0⟩)
  · by_cases hv : vy = 0
    · rcases pk_ix v1 (n := L) (by omega) with h1 | h1 | ⟨a, ha, rfl⟩
      · exact br_t hv (lx_lock0 (Or.inl h1) (br_t rfl (br_f ll_1n0 (br_t hv (br_t h1 ⟨rfl, I0⟩)))))
      · exact br_t hv (lx_lock0 (Or.inr h1) (br_t rfl (br_f ll_1n0 (br_t hv (br_f (ll_ge0 (by omega) h1) (br_f (ll_gel h1) ⟨rfl, I0⟩))))))
      · have c1 : (nI a).toNatClampNeg = a := nI_clamp (by omega)
        have hi : vp_in (nI a) 8 := vp_in_nI (by omega) (by decide)
        refine br_t hv (lx_lock1 ha hL (br_f ll_1n0 ⟨hi, br_f ll_1n0 (br_t hv (br_f (nI_pos (by omega)) (br_t (nI_lt ha (by omega)) ⟨hi, ?_, I0⟩)))⟩))
        rw [c1]
        exact M2 hv a ha
    · exact br_f hv (br_f ll_1n0 (br_f hv ⟨rfl, I0⟩))
theorem i_vc_cycleLock {k : Nat} {u : SX} {v : SY} (I : i_Rel k u v) (hk : k + 4 ≤ 2050) : wpX_cycleLock (fun r => wpY_cycleLock (fun r' => r' = r ∧ i_Rel (k + 4) u v) v) u := by
  have I0 := I
  obtain ⟨L, T, cl, se, vd, lk, vy, op, ar, ln, en, so, lv, ed, pa, fp, fc, dp, hd, hc, re, lw, hy, cy, rfl, rfl, hL2, hL, hT1, hT, C, hen, B, M⟩ := I
  rcases M with ⟨rfl, rfl, rfl, M⟩ | ⟨rfl, rfl, M0, M1, M2, M3⟩
  · have hY : ∀ post : Int32 → Prop, post (-1) → wpY_cycleLock post (nI L, nI T, cl, 0, vy, 0, op, ar, ln, en, so, ed, re, lw, hy, cy, fp, fc, dp) := fun post hp => br_t rfl hp
    exact hY (fun r' => r' = -1 ∧ i_Rel (k + 4) (nI L, nI T, cl, 0, -1, -1, op, ar, ln, en, so, lv, ed, pa, fp, fc, dp, hd, hc) (nI L, nI T, cl, 0, vy, 0, op, ar, ln, en, so, ed, re, lw, hy, cy, fp, fc, dp)) ⟨rfl, I0⟩
  · have hY : ∀ post : Int32 → Prop, post lk → wpY_cycleLock post (nI L, nI T, cl, 1, vy, 0, op, ar, ln, en, so, ed, re, lw, hy, cy, fp, fc, dp) := by
      intro post hp
      rcases M3 with ⟨hv, l, hl, rfl, h1, h0⟩ | ⟨hv, rfl⟩
      · exact br_f ll_1n0 (br_t hv ⟨l + 1, ly_cyc (by omega) h1 h0 hp l (l + 1) 0 (by omega) (by omega)⟩)
      · exact br_f ll_1n0 (br_f hv hp)
    exact hY (fun r' => r' = lk ∧ i_Rel (k + 4) (nI L, nI T, cl, 1, vy, lk, op, ar, ln, en, so, lv, ed, pa, fp, fc, dp, hd, hc) (nI L, nI T, cl, 1, vy, 0, op, ar, ln, en, so, ed, re, lw, hy, cy, fp, fc, dp)) ⟨rfl, I0⟩
theorem i_vc_soloLength {k : Nat} {u : SX} {v : SY} (I : i_Rel k u v) (hk : k + 4 ≤ 2050) (v1 : Int32) : wpX_soloLength (fun r => wpY_soloLength (fun r' => r' = r ∧ i_Rel (k + 4) u v) v v1) u v1 := by
  have I0 := I
  obtain ⟨L, T, cl, se, vd, lk, vy, op, ar, ln, en, so, lv, ed, pa, fp, fc, dp, hd, hc, re, lw, hy, cy, rfl, rfl, hL2, hL, hT1, hT, C, hen, B, M⟩ := I
  rcases M with ⟨rfl, M⟩ | ⟨rfl, rfl, M⟩
  · exact br_t rfl (br_t rfl ⟨rfl, I0⟩)
  · rcases pk_ix v1 (n := T) (by omega) with h1 | h1 | ⟨a, ha, rfl⟩
    · exact br_f ll_1n0 (lx_thr0 (Or.inl h1) (br_t rfl (br_f ll_1n0 (br_t h1 ⟨rfl, I0⟩))))
    · exact br_f ll_1n0 (lx_thr0 (Or.inr h1) (br_t rfl (br_f ll_1n0 (br_f (ll_ge0 (by omega) h1) (br_f (ll_gel h1) ⟨rfl, I0⟩)))))
    · have hi : vp_in (nI a) 4 := vp_in_nI (by omega) (by decide)
      exact br_f ll_1n0 (lx_thr1 ha hT (br_f ll_1n0 ⟨hi, br_f ll_1n0 (br_f (nI_pos (by omega)) (br_t (nI_lt ha (by omega)) ⟨hi, rfl, I0⟩))⟩))
theorem i_vc_holder {k : Nat} {u : SX} {v : SY} (I : i_Rel k u v) (hk : k + 4 ≤ 2050) (v1 : Int32) : wpX_holder (fun r => wpY_holder (fun r' => r' = r ∧ i_Rel (k + 4) u v) v v1) u v1 := by
  have I0 := I
  obtain ⟨L, T, cl, se, vd, lk, vy, op, ar, ln, en, so, lv, ed, pa, fp, fc, dp, hd, hc, re, lw, hy, cy, rfl, rfl, hL2, hL, hT1, hT, C, hen, B, M⟩ := I
  rcases M with ⟨rfl, M⟩ | ⟨rfl, rfl, S, K, M⟩
  · exact br_t rfl (br_t rfl ⟨rfl, I0⟩)
  · rcases pk_ix v1 (n := L) (by omega) with h1 | h1 | ⟨a, ha, rfl⟩
    · exact br_f ll_1n0 (lx_lock0 (Or.inl h1) (br_t rfl (br_f ll_1n0 (br_t h1 ⟨rfl, I0⟩))))
    · exact br_f ll_1n0 (lx_lock0 (Or.inr h1) (br_t rfl (br_f ll_1n0 (br_f (ll_ge0 (by omega) h1) (br_f (ll_gel h1) ⟨rfl, I0⟩)))))
    · have c1 : (nI a).toNatClampNeg = a := nI_clamp (by omega)
      have hi : vp_in (nI a) 8 := vp_in_nI (by omega) (by decide)
      refine br_f ll_1n0 (lx_lock1 ha hL (br_f ll_1n0 ⟨hi, br_f ll_1n0 (br_f (nI_pos (by omega)) (br_t (nI_lt ha (by omega)) ⟨hi, ?_, I0⟩))⟩))
      rw [c1]
      exact (K.1 a ha).1
theorem i_vc_holdCount {k : Nat} {u : SX} {v : SY} (I : i_Rel k u v) (hk : k + 4 ≤ 2050) (v1 : Int32) : wpX_holdCount (fun r => wpY_holdCount (fun r' => r' = r ∧ i_Rel (k + 4) u v) v v1) u v1 := by
  have I0 := I
  obtain ⟨L, T, cl, se, vd, lk, vy, op, ar, ln, en, so, lv, ed, pa, fp, fc, dp, hd, hc, re, lw, hy, cy, rfl, rfl, hL2, hL, hT1, hT, C, hen, B, M⟩ := I
  rcases M with ⟨rfl, M⟩ | ⟨rfl, rfl, S, K, M⟩
  · exact br_t rfl (br_t rfl ⟨rfl, I0⟩)
  · rcases pk_ix v1 (n := L) (by omega) with h1 | h1 | ⟨a, ha, rfl⟩
    · exact br_f ll_1n0 (lx_lock0 (Or.inl h1) (br_t rfl (br_f ll_1n0 (br_t h1 ⟨rfl, I0⟩))))
    · exact br_f ll_1n0 (lx_lock0 (Or.inr h1) (br_t rfl (br_f ll_1n0 (br_f (ll_ge0 (by omega) h1) (br_f (ll_gel h1) ⟨rfl, I0⟩)))))
    · have c1 : (nI a).toNatClampNeg = a := nI_clamp (by omega)
      have hi : vp_in (nI a) 8 := vp_in_nI (by omega) (by decide)
      refine br_f ll_1n0 (lx_lock1 ha hL (br_f ll_1n0 ⟨hi, br_f ll_1n0 (br_f (nI_pos (by omega)) (br_t (nI_lt ha (by omega)) ⟨hi, ?_, I0⟩))⟩))
      rw [c1]
      exact (K.1 a ha).2.1
theorem i_vc_frameProc {k : Nat} {u : SX} {v : SY} (I : i_Rel k u v) (hk : k + 4 ≤ 2050) (v1 : Int32) : wpX_frameProc (fun r => wpY_frameProc (fun r' => r' = r ∧ i_Rel (k + 4) u v) v v1) u v1 := by
  have I0 := I
  obtain ⟨L, T, cl, se, vd, lk, vy, op, ar, ln, en, so, lv, ed, pa, fp, fc, dp, hd, hc, re, lw, hy, cy, rfl, rfl, hL2, hL, hT1, hT, C, hen, B, M⟩ := I
  unfold wpX_frameProc
  rcases M with ⟨rfl, M⟩ | ⟨rfl, rfl, S, K, M⟩
  · exact lx_runU (br_t rfl (br_t rfl ⟨rfl, I0⟩))
  · rcases pk_ix v1 (n := T) (by omega) with h1 | h1 | ⟨t, ht, rfl⟩
    · exact lx_run0 (Or.inl h1) (br_t rfl (br_f ll_1n0 (br_t h1 ⟨rfl, I0⟩)))
    · exact lx_run0 (Or.inr h1) (br_t rfl (br_f ll_1n0 (br_f (ll_ge0 (by omega) h1) (br_t h1 ⟨rfl, I0⟩))))
    · obtain ⟨d, hd8, hdp, hF, hsd⟩ := S.1 t ht
      have c1 : (nI t).toNatClampNeg = t := nI_clamp (by omega)
      have hi : vp_in (nI t) 4 := vp_in_nI (by omega) (by decide)
      have q1 : ¬ nI t < 0 := nI_pos (by omega)
      have q2 : ¬ nI T ≤ nI t := nI_ge ht (by omega)
      cases d with
      | zero =>
        refine lx_run1 ht hT hdp (by omega) (fun _ => br_t rfl ?_) (fun z => absurd rfl z)
        exact br_f ll_1n0 (br_f q1 (br_f q2 ⟨hi, pk_lt 0 0 (fun h => absurd h (by omega)) (fun _ => ⟨rfl, I0⟩) rfl (by rw [c1]; exact hdp)⟩))
      | succ e =>
        have c2 : (nI (t * 8 + e)).toNatClampNeg = t * 8 + e := nI_clamp (by omega)
        have hj : vp_in (nI (t * 8 + e)) 32 := vp_in_nI (by omega) (by decide)
        refine lx_run1 ht hT hdp (by omega) (fun z => absurd z (by omega)) (fun _ => br_f ll_1n0 ?_)
        refine lx_top (by omega) hdp ⟨hj, ?_⟩
        refine br_f ll_1n0 (br_f q1 (br_f q2 ⟨hi, pk_lt 0 (e + 1) (fun _ => ?_) (fun h => absurd h (by omega)) rfl (by rw [c1]; exact hdp)⟩))
        rw [c1, hdp, ll_top]
        exact ⟨hi, hj, rfl, I0⟩
theorem i_vc_framePc {k : Nat} {u : SX} {v : SY} (I : i_Rel k u v) (hk : k + 4 ≤ 2050) (v1 : Int32) : wpX_framePc (fun r => wpY_framePc (fun r' => r' = r ∧ i_Rel (k + 4) u v) v v1) u v1 := by
  have I0 := I
  obtain ⟨L, T, cl, se, vd, lk, vy, op, ar, ln, en, so, lv, ed, pa, fp, fc, dp, hd, hc, re, lw, hy, cy, rfl, rfl, hL2, hL, hT1, hT, C, hen, B, M⟩ := I
  unfold wpX_framePc
  rcases M with ⟨rfl, M⟩ | ⟨rfl, rfl, S, K, M⟩
  · exact lx_runU (br_t rfl (br_t rfl ⟨rfl, I0⟩))
  · rcases pk_ix v1 (n := T) (by omega) with h1 | h1 | ⟨t, ht, rfl⟩
    · exact lx_run0 (Or.inl h1) (br_t rfl (br_f ll_1n0 (br_t h1 ⟨rfl, I0⟩)))
    · exact lx_run0 (Or.inr h1) (br_t rfl (br_f ll_1n0 (br_f (ll_ge0 (by omega) h1) (br_t h1 ⟨rfl, I0⟩))))
    · obtain ⟨d, hd8, hdp, hF, hsd⟩ := S.1 t ht
      have c1 : (nI t).toNatClampNeg = t := nI_clamp (by omega)
      have hi : vp_in (nI t) 4 := vp_in_nI (by omega) (by decide)
      have q1 : ¬ nI t < 0 := nI_pos (by omega)
      have q2 : ¬ nI T ≤ nI t := nI_ge ht (by omega)
      cases d with
      | zero =>
        refine lx_run1 ht hT hdp (by omega) (fun _ => br_t rfl ?_) (fun z => absurd rfl z)
        exact br_f ll_1n0 (br_f q1 (br_f q2 ⟨hi, pk_lt 0 0 (fun h => absurd h (by omega)) (fun _ => ⟨rfl, I0⟩) rfl (by rw [c1]; exact hdp)⟩))
      | succ e =>
        have c2 : (nI (t * 8 + e)).toNatClampNeg = t * 8 + e := nI_clamp (by omega)
        have hj : vp_in (nI (t * 8 + e)) 32 := vp_in_nI (by omega) (by decide)
        refine lx_run1 ht hT hdp (by omega) (fun z => absurd z (by omega)) (fun _ => br_f ll_1n0 ?_)
        refine lx_top (by omega) hdp ⟨hj, ?_⟩
        refine br_f ll_1n0 (br_f q1 (br_f q2 ⟨hi, pk_lt 0 (e + 1) (fun _ => ?_) (fun h => absurd h (by omega)) rfl (by rw [c1]; exact hdp)⟩))
        rw [c1, hdp, ll_top]
        exact ⟨hi, hj, rfl, I0⟩
theorem i_vc_waitsFor {k : Nat} {u : SX} {v : SY} (I : i_Rel k u v) (hk : k + 4 ≤ 2050) (v1 : Int32) : wpX_waitsFor (fun r => wpY_waitsFor (fun r' => r' = r ∧ i_Rel (k + 4) u v) v v1) u v1 := by
  have I0 := I
  obtain ⟨L, T, cl, se, vd, lk, vy, op, ar, ln, en, so, lv, ed, pa, fp, fc, dp, hd, hc, re, lw, hy, cy, rfl, rfl, hL2, hL, hT1, hT, C, hen, B, M⟩ := I
  rcases M with ⟨rfl, M⟩ | ⟨rfl, rfl, S, K, M⟩
  · exact lx_waitU (br_t rfl ⟨rfl, I0⟩)
  · obtain ⟨w, _, _, _, wX, wY⟩ := lm_wait hL hT C S K v1
    exact wX _ (br_f ll_1n0 (wY _ ⟨rfl, I0⟩))
theorem i_vc_deadlocked {k : Nat} {u : SX} {v : SY} (I : i_Rel k u v) (hk : k + 4 ≤ 2050) : wpX_deadlocked (fun r => wpY_deadlocked (fun r' => r' = r ∧ i_Rel (k + 4) u v) v) u := by
  have I0 := I
  obtain ⟨L, T, cl, se, vd, lk, vy, op, ar, ln, en, so, lv, ed, pa, fp, fc, dp, hd, hc, re, lw, hy, cy, rfl, rfl, hL2, hL, hT1, hT, C, hen, B, M⟩ := I
  rcases M with ⟨rfl, M⟩ | ⟨rfl, rfl, S, K, M⟩
  · exact ⟨T + 1, lx_deadU hT1 hT (br_t rfl ⟨rfl, I0⟩) T (T + 1) 0 (by omega) (by omega)⟩
  · obtain ⟨b, dX, dY⟩ := lm_dead hL hT C S K T 0 (by omega)
    exact ⟨T + 1, dX _ (T + 1) (by omega) (br_f ll_1n0 ⟨T + 1, dY _ (T + 1) (by omega) ⟨rfl, I0⟩⟩)⟩
end
