section
/-! small rows of my own -/
theorem ll_uu (f : Nat → Int32) (k : Nat) (x y : Int32) : upd (upd f k x) k y = upd f k y := by
  funext j
  by_cases h : j = k
  · rw [h, pk_us, pk_us]
  · rw [pk_un h, pk_un h, pk_un h]
theorem ll_ui (f : Nat → Int32) (k : Nat) (x : Int32) (h : f k = x) : upd f k x = f := by
  funext j
  by_cases e : j = k
  · rw [e, pk_us, h]
  · rw [pk_un e]
theorem ll_uc (f : Nat → Int32) {k m : Nat} (x y : Int32) (h : k ≠ m) : upd (upd f k x) m y = upd (upd f m y) k x := by
  funext j
  by_cases e : j = m
  · rw [e, pk_us, pk_un (fun q => h q.symm), pk_us]
  · by_cases e' : j = k
    · rw [e', pk_un h, pk_us, pk_us]
    · rw [pk_un e, pk_un e', pk_un e', pk_un e]
theorem ll_b1 : vp_nar .boolean 1 = 1 := rfl
theorem ll_b0 : vp_nar .boolean 0 = 0 := rfl
/-- an array of booleans -/
def ll_B (a : Nat → Int32) : Prop := ∀ j, a j = 0 ∨ a j = 1
theorem ll_B0 : ll_B (fun _ => 0) := fun _ => Or.inl rfl
theorem ll_Bu {a : Nat → Int32} (h : ll_B a) (k : Nat) {x : Int32} (hx : x = 0 ∨ x = 1) : ll_B (upd a k x) := by
  intro j
  by_cases e : j = k
  · rw [e, pk_us]; exact hx
  · rw [pk_un e]; exact h j
theorem ll_bn {x : Int32} (h : x = 0 ∨ x = 1) : vp_nar .boolean x = x := by
  rcases h with h | h
  · rw [h]; rfl
  · rw [h]; rfl
theorem ll_bnn {x : Int32} (h : x = 0 ∨ x = 1) : narrow .boolean (.int x) = .int x := by
  rcases h with h | h
  · rw [h]; rfl
  · rw [h]; rfl
theorem ll_m1 (n : Nat) (h : n < 2 ^ 31) : ¬ (-1 : Int32) = nI n := by
  intro e
  have h1 := congrArg Int32.toInt e
  rw [nI_toInt h, show (-1 : Int32).toInt = -1 from by decide] at h1
  omega
theorem ll_8 (n : Nat) : nI n * 8 = nI (n * 8) := pk_mul n 8
theorem ll_ix {x : Int32} {n : Nat} (h0 : ¬ x < 0) (h : ¬ nI n ≤ x) (hn : n < 2 ^ 31) : ∃ j : Nat, j < n ∧ x = nI j := by
  rcases pk_ix x hn with q | q | q
  · exact absurd q h0
  · exact absurd q h
  · exact q
end
section
/-! pure graph rows: paths by stages, counts, the closure of a row, levels -/
/-- a path whose inner vertices lie below k -/
def gr_P (E : Nat → Nat → Prop) : Nat → Nat → Nat → Prop
  | 0 => E
  | k + 1 => fun a b => gr_P E k a b ∨ (gr_P E k a k ∧ gr_P E k k b)
theorem gr_base {E : Nat → Nat → Prop} : ∀ (k : Nat) {a b : Nat}, E a b → gr_P E k a b
  | 0, _, _, h => h
  | k + 1, _, _, h => Or.inl (gr_base k h)
theorem gr_trans {E : Nat → Nat → Prop} : ∀ (k : Nat) {m a b : Nat}, m < k → gr_P E k a m → gr_P E k m b → gr_P E k a b := by
  intro k
  induction k with
  | zero => intro m a b hm; omega
  | succ k ih =>
    intro m a b hm h1 h2
    by_cases e : m = k
    · rw [e] at h1 h2
      refine Or.inr ⟨?_, ?_⟩
      · rcases h1 with h | h
        · exact h
        · exact h.1
      · rcases h2 with h | h
        · exact h
        · exact h.2
    · have hm' : m < k := by omega
      rcases h1 with h1 | h1
      · rcases h2 with h2 | h2
        · exact Or.inl (ih hm' h1 h2)
        · exact Or.inr ⟨ih hm' h1 h2.1, h2.2⟩
      · rcases h2 with h2 | h2
        · exact Or.inr ⟨h1.1, ih hm' h1.2 h2⟩
        · exact Or.inr ⟨h1.1, h2.2⟩
theorem gr_row {E : Nat → Nat → Prop} (k b : Nat) : gr_P E (k + 1) k b ↔ gr_P E k k b :=
  ⟨fun h => h.elim id (fun h => h.2), Or.inl⟩
theorem gr_col {E : Nat → Nat → Prop} (k a : Nat) : gr_P E (k + 1) a k ↔ gr_P E k a k :=
  ⟨fun h => h.elim id (fun h => h.1), Or.inl⟩
theorem gr_dom {E : Nat → Nat → Prop} {L : Nat} (hE : ∀ a b, E a b → a < L ∧ b < L) : ∀ (k : Nat) {a b : Nat}, gr_P E k a b → a < L ∧ b < L := by
  intro k
  induction k with
  | zero => intro a b h; exact hE a b h
  | succ k ih =>
    intro a b h
    rcases h with h | h
    · exact ih h
    · exact ⟨(ih h.1).1, (ih h.2).2⟩
theorem gr_first {E : Nat → Nat → Prop} : ∀ (k : Nat) {a b : Nat}, gr_P E k a b → ∃ m, E a m := by
  intro k
  induction k with
  | zero => intro a b h; exact ⟨b, h⟩
  | succ k ih =>
    intro a b h
    rcases h with h | h
    · exact ih h
    · exact ih h.1
theorem gr_close {E : Nat → Nat → Prop} {i : Nat} {R : Nat → Prop} (h0 : ∀ j, E i j → R j) (hR : ∀ m j, R m → E m j → R j) : ∀ (k m b : Nat), gr_P E k m b → (m = i ∨ R m) → R b := by
  intro k
  induction k with
  | zero =>
    intro m b h hm
    rcases hm with hm | hm
    · rw [hm] at h; exact h0 b h
    · exact hR m b hm h
  | succ k ih =>
    intro m b h hm
    rcases h with h | h
    · exact ih m b h hm
    · exact ih k b h.2 (Or.inr (ih m k h.1 hm))
theorem gr_iff {E F : Nat → Nat → Prop} (h : ∀ a b, E a b ↔ F a b) : ∀ (k a b : Nat), gr_P E k a b ↔ gr_P F k a b := by
  intro k
  induction k with
  | zero => exact h
  | succ k ih => intro a b; exact or_congr (ih a b) (and_congr (ih a k) (ih k b))
/-- how many numbers below n have Q -/
noncomputable def gr_c (Q : Nat → Prop) : Nat → Nat
  | 0 => 0
  | n + 1 => gr_c Q n + @ite Nat (Q n) (Classical.propDecidable _) 1 0
theorem gr_c1 {Q : Nat → Prop} {n : Nat} (h : Q n) : gr_c Q (n + 1) = gr_c Q n + 1 := by
  show gr_c Q n + _ = _
  rw [if_pos h]
theorem gr_c0 {Q : Nat → Prop} {n : Nat} (h : ¬ Q n) : gr_c Q (n + 1) = gr_c Q n := by
  show gr_c Q n + _ = _
  rw [if_neg h, Nat.add_zero]
theorem gr_cS (Q : Nat → Prop) (n : Nat) : gr_c Q n ≤ gr_c Q (n + 1) ∧ gr_c Q (n + 1) ≤ gr_c Q n + 1 := by
  by_cases h : Q n
  · rw [gr_c1 h]; omega
  · rw [gr_c0 h]; omega
theorem gr_cle (Q : Nat → Prop) : ∀ n, gr_c Q n ≤ n := by
  intro n
  induction n with
  | zero => exact Nat.le_refl _
  | succ n ih => have := gr_cS Q n; omega
theorem gr_cmono {Q R : Nat → Prop} : ∀ n, (∀ a, a < n → Q a → R a) → gr_c Q n ≤ gr_c R n := by
  intro n
  induction n with
  | zero => intro _; exact Nat.le_refl _
  | succ n ih =>
    intro h
    have h1 := ih (fun a ha => h a (by omega))
    have h2 := gr_cS R n
    by_cases q : Q n
    · rw [gr_c1 q, gr_c1 (h n (by omega) q)]; omega
    · rw [gr_c0 q]; omega
theorem gr_clt {Q R : Nat → Prop} : ∀ n x, x < n → (∀ a, a < n → Q a → R a) → ¬ Q x → R x → gr_c Q n < gr_c R n := by
  intro n
  induction n with
  | zero => intro x hx; omega
  | succ n ih =>
    intro x hx h q r
    by_cases e : x = n
    · rw [e] at q r
      have h1 := gr_cmono (Q := Q) (R := R) n (fun a ha => h a (by omega))
      rw [gr_c0 q, gr_c1 r]; omega
    · have h1 := ih x (by omega) (fun a ha => h a (by omega)) q r
      have h2 := gr_cS R n
      by_cases q' : Q n
      · rw [gr_c1 q', gr_c1 (h n (by omega) q')]; omega
      · rw [gr_c0 q']; omega
theorem gr_cn {Q : Nat → Prop} (n x : Nat) (hx : x < n) (h : ¬ Q x) : gr_c Q n < n := by
  have h1 := gr_clt (Q := Q) (R := fun _ => True) n x hx (fun _ _ _ => trivial) h trivial
  have h2 := gr_cle (fun _ => True) n
  omega
theorem gr_cpos {Q : Nat → Prop} (n x : Nat) (hx : x < n) (h : Q x) : 0 < gr_c Q n := by
  have h1 := gr_clt (Q := fun _ => False) (R := Q) n x hx (fun _ _ f => f.elim) (fun f => f) h
  omega
/-- after r rounds a row is complete, or holds more than r -/
def gr_done (E : Nat → Nat → Prop) (L : Nat) (R : Nat → Nat → Prop) (r : Nat) : Prop :=
  ∀ i, i < 8 → (∀ j, gr_P E L i j → R i j) ∨ r + 1 ≤ gr_c (R i) 8
theorem gr_done0 {E R : Nat → Nat → Prop} (L : Nat) (hE : ∀ a b, E a b → a < 8 ∧ b < 8) (h : ∀ a b, E a b → R a b) : gr_done E L R 0 := by
  intro i hi
  by_cases c : ∃ m, E i m
  · obtain ⟨m, hm⟩ := c
    exact Or.inr (gr_cpos 8 m (hE i m hm).2 (h i m hm))
  · exact Or.inl (fun j hj => absurd (gr_first L hj) c)
theorem gr_doneS {E R R' : Nat → Nat → Prop} {L r : Nat} (hE : ∀ a b, E a b → a < 8 ∧ b < 8) (h : gr_done E L R r) (hEr : ∀ a b, E a b → R a b) (hm : ∀ a b, R a b → R' a b) (hs : ∀ i m j, R i m → E m j → R' i j) : gr_done E L R' (r + 1) := by
  intro i hi
  rcases h i hi with h | h
  · exact Or.inl (fun j hj => hm _ _ (h j hj))
  · by_cases c : ∃ x, x < 8 ∧ R' i x ∧ ¬ R i x
    · obtain ⟨x, hx, h1, h2⟩ := c
      have h3 := gr_clt (Q := R i) (R := R' i) 8 x hx (fun a _ => hm i a) h2 h1
      exact Or.inr (by omega)
    · refine Or.inl (fun j hj => hm _ _ ?_)
      refine gr_close (R := R i) (i := i) (hEr i) (fun m j' h1 h2 => ?_) L i j hj (Or.inl rfl)
      by_cases q : R i j'
      · exact q
      · exact absurd ⟨j', (hE m j' h2).2, hs i m j' h1 h2, q⟩ c
theorem gr_done8 {E R : Nat → Nat → Prop} {L : Nat} (h : gr_done E L R 8) (i j : Nat) (hi : i < 8) (hj : gr_P E L i j) : R i j := by
  rcases h i hi with h | h
  · exact h j hj
  · have := gr_cle (R i) 8
    omega
/-- the number of locks from which b is reached -/
noncomputable def gr_A (E : Nat → Nat → Prop) (L b : Nat) : Nat := gr_c (fun a => gr_P E L a b) L
theorem gr_Alt {E : Nat → Nat → Prop} {L : Nat} (hE : ∀ a b, E a b → a < L ∧ b < L) (hac : ∀ a, ¬ gr_P E L a a) {a b : Nat} (h : E a b) : gr_A E L a < gr_A E L b :=
  gr_clt (Q := fun x => gr_P E L x a) (R := fun x => gr_P E L x b) L a (hE a b h).1 (fun _ _ hx => gr_trans L (hE a b h).1 hx (gr_base L h)) (hac a) (gr_base L h)
theorem gr_An {E : Nat → Nat → Prop} {L : Nat} (hac : ∀ a, ¬ gr_P E L a a) {b : Nat} (hb : b < L) : gr_A E L b < L :=
  gr_cn (Q := fun x => gr_P E L x b) L b hb (hac b)
/-- levels within round r: D holds the pairs done in it -/
def gr_LI (E : Nat → Nat → Prop) (L r : Nat) (D : Nat → Nat → Prop) (lev : Nat → Nat) : Prop :=
  (∀ b, lev b ≤ gr_A E L b) ∧ (∀ b, lev b = 0 ∨ ∃ a, E a b ∧ lev b ≤ lev a + 1) ∧ (∀ a b, E a b → gr_A E L b ≤ r → lev a + 1 ≤ lev b) ∧ (∀ a b, E a b → gr_A E L b ≤ r + 1 → D a b → lev a + 1 ≤ lev b)
theorem gr_LIno {E : Nat → Nat → Prop} {L r : Nat} {D D' : Nat → Nat → Prop} {lev : Nat → Nat} (a b : Nat) (h : gr_LI E L r D lev) (hn : E a b → lev a + 1 ≤ lev b) (hD : ∀ x y, D' x y → D x y ∨ (x = a ∧ y = b)) : gr_LI E L r D' lev := by
  refine ⟨h.1, h.2.1, h.2.2.1, fun x y e hr d => ?_⟩
  rcases hD x y d with d | d
  · exact h.2.2.2 x y e hr d
  · rw [d.1, d.2] at e ⊢
    exact hn e
theorem gr_LIup {E : Nat → Nat → Prop} {L r : Nat} {D D' : Nat → Nat → Prop} {lev : Nat → Nat} (hE : ∀ a b, E a b → a < L ∧ b < L) (hac : ∀ a, ¬ gr_P E L a a) (a b : Nat) (h : gr_LI E L r D lev) (hab : E a b) (hlt : lev b < lev a + 1) (hD : ∀ x y, D' x y → D x y ∨ (x = a ∧ y = b)) (lev' : Nat → Nat) (hb : lev' b = lev a + 1) (ho : ∀ j, j ≠ b → lev' j = lev j) : gr_LI E L r D' lev' := by
  have hA := gr_Alt hE hac hab
  have hne : a ≠ b := by
    intro e; rw [e] at hA; omega
  have hup : ∀ j, lev j ≤ lev' j := by
    intro j
    by_cases e : j = b
    · rw [e, hb]; omega
    · rw [ho j e]; omega
  have hnr : ¬ gr_A E L b ≤ r := fun q => by
    have := h.2.2.1 a b hab q
    omega
  have key : ∀ x y, E x y → gr_A E L y ≤ r + 1 → lev x + 1 ≤ lev y → lev' x + 1 ≤ lev' y := by
    intro x y e hr hl
    have hxy := gr_Alt hE hac e
    by_cases ex : x = b
    · rw [ex] at hxy; omega
    · rw [ho x ex]
      have := hup y
      omega
  refine ⟨fun j => ?_, fun j => ?_, fun x y e hr => ?_, fun x y e hr d => ?_⟩
  · by_cases e : j = b
    · rw [e, hb]
      have := h.1 a
      omega
    · rw [ho j e]; exact h.1 j
  · by_cases e : j = b
    · rw [e, hb]
      refine Or.inr ⟨a, hab, ?_⟩
      rw [ho a hne]; omega
    · rw [ho j e]
      rcases h.2.1 j with q | ⟨s, q1, q2⟩
      · exact Or.inl q
      · exact Or.inr ⟨s, q1, by have := hup s; omega⟩
  · exact key x y e (by omega) (h.2.2.1 x y e hr)
  · rcases hD x y d with d | d
    · exact key x y e hr (h.2.2.2 x y e hr d)
    · rw [d.1, d.2, ho a hne, hb]
      exact Nat.le_refl _
theorem gr_LInext {E : Nat → Nat → Prop} {L r : Nat} {D : Nat → Nat → Prop} {lev : Nat → Nat} (h : gr_LI E L r D lev) (hD : ∀ x y, E x y → D x y) : gr_LI E L (r + 1) (fun _ _ => False) lev :=
  ⟨h.1, h.2.1, fun x y e hr => h.2.2.2 x y e hr (hD x y e), fun _ _ _ _ f => f.elim⟩
theorem gr_LI0 {E : Nat → Nat → Prop} {L : Nat} (hE : ∀ a b, E a b → a < L ∧ b < L) (hac : ∀ a, ¬ gr_P E L a a) {lev : Nat → Nat} (hl : ∀ j, lev j = 0) : gr_LI E L 0 (fun _ _ => False) lev := by
  refine ⟨fun b => ?_, fun b => Or.inl (hl b), fun a b e hr => ?_, fun _ _ _ _ f => f.elim⟩
  · rw [hl b]; exact Nat.zero_le _
  · have := gr_Alt hE hac e
    omega
theorem gr_LIle {E : Nat → Nat → Prop} {L r r' : Nat} {D D' : Nat → Nat → Prop} {lev lev' : Nat → Nat} (hE : ∀ a b, E a b → a < L ∧ b < L) (hac : ∀ a, ¬ gr_P E L a a) (h : gr_LI E L r D lev) (h' : gr_LI E L r' D' lev') (hr' : L ≤ r' + 1) : ∀ n b, gr_A E L b ≤ n → lev b ≤ lev' b := by
  intro n
  induction n with
  | zero =>
    intro b hb
    have := h.1 b
    omega
  | succ n ih =>
    intro b hb
    rcases h.2.1 b with q | ⟨a, q1, q2⟩
    · omega
    · have h1 := gr_Alt hE hac q1
      have h2 := ih a (by omega)
      have h3 := gr_An hac (hE a b q1).2
      have h4 := h'.2.2.1 a b q1 (by omega)
      omega
theorem gr_uniq {E : Nat → Nat → Prop} {L r r' : Nat} {D D' : Nat → Nat → Prop} {lev lev' : Nat → Nat} (hE : ∀ a b, E a b → a < L ∧ b < L) (hac : ∀ a, ¬ gr_P E L a a) (h : gr_LI E L r D lev) (h' : gr_LI E L r' D' lev') (hr : L ≤ r + 1) (hr' : L ≤ r' + 1) (b : Nat) : lev b = lev' b :=
  Nat.le_antisymm (gr_LIle hE hac h h' hr' _ b (Nat.le_refl _)) (gr_LIle hE hac h' h hr _ b (Nat.le_refl _))
end
section
/-! the machine, pure; the small walks of X -/
/-- the depth at which a stack of depth d comes to rest -/
def ll_sd (ln fp fc : Nat → Int32) (b : Nat) : Nat → Nat
  | 0 => 0
  | d + 1 => if fc (b + d) < ln (fp (b + d)).toNatClampNeg then d + 1 else ll_sd ln fp fc b d
/-- the frames of a stack -/
def ll_FR (ln fp fc : Nat → Int32) (b d : Nat) : Prop :=
  ∀ i, i < d → ∃ p c n, fp (b + i) = nI p ∧ i ≤ p ∧ p < 8 ∧ fc (b + i) = nI c ∧ ln p = nI n ∧ c ≤ n ∧ n ≤ 8
section
variable {nl nt cl se vd lk : Int32} {op ar ln en so lv ed pa fp fc dp hd hc fp' fc' dp' hd' hc' : Nat → Int32}
theorem ll_sd_le {b : Nat} : ∀ d, ll_sd ln fp fc b d ≤ d := by
  intro d
  induction d with
  | zero => exact Nat.le_refl _
  | succ d ih =>
    show (if _ then d + 1 else ll_sd ln fp fc b d) ≤ d + 1
    split
    · exact Nat.le_refl _
    · omega
theorem ll_sd_id {b : Nat} : ∀ d, ll_sd ln fp fc b (ll_sd ln fp fc b d) = ll_sd ln fp fc b d := by
  intro d
  induction d with
  | zero => rfl
  | succ d ih =>
    by_cases h : fc (b + d) < ln (fp (b + d)).toNatClampNeg
    · have e : ll_sd ln fp fc b (d + 1) = d + 1 := if_pos h
      rw [e, e]
    · have e : ll_sd ln fp fc b (d + 1) = ll_sd ln fp fc b d := if_neg h
      rw [e, ih]
theorem ll_sd_c {b d p c m : Nat} (h1 : fp (b + d) = nI p) (hp : p < 8) (h2 : fc (b + d) = nI c) (h3 : ln p = nI m) (hcm : c ≤ m) (hm : m ≤ 8) : (fc (b + d) < ln (fp (b + d)).toNatClampNeg) ↔ c < m := by
  rw [h1, h2, nI_clamp (by omega), h3, nI_ltI (by omega) (by omega)]
theorem ll_sd_t {b d p c m : Nat} (h1 : fp (b + d) = nI p) (hp : p < 8) (h2 : fc (b + d) = nI c) (h3 : ln p = nI m) (hcm : c < m) (hm : m ≤ 8) : ll_sd ln fp fc b (d + 1) = d + 1 :=
  if_pos ((ll_sd_c h1 hp h2 h3 (by omega) hm).mpr hcm)
theorem ll_sd_f {b d p c m : Nat} (h1 : fp (b + d) = nI p) (hp : p < 8) (h2 : fc (b + d) = nI c) (h3 : ln p = nI m) (hcm : c = m) (hm : m ≤ 8) : ll_sd ln fp fc b (d + 1) = ll_sd ln fp fc b d :=
  if_neg (fun h => by
    have := (ll_sd_c h1 hp h2 h3 (by omega) hm).mp h
    omega)
theorem ll_FRle {b d d' : Nat} (h : ll_FR ln fp fc b d) (hd' : d' ≤ d) : ll_FR ln fp fc b d' := fun i hi => h i (by omega)
theorem ll_top (t e : Nat) : nI t * 8 + nI (e + 1) - 1 = nI (t * 8 + e) := by
  rw [ll_8, nI_add, show t * 8 + (e + 1) = (t * 8 + e) + 1 from rfl, nI_pred]
theorem ll_cel (p c : Nat) : nI p * 8 + nI c = nI (p * 8 + c) := by rw [ll_8, nI_add]
theorem lx_isDone {post : Int32 → Prop} {t d : Nat} (ht : t < 4) (hdp : dp t = nI d) (h8 : d ≤ 8) (h0 : d = 0 → post 1) (h1 : d ≠ 0 → post 0) : wpX_isDone post (nl, nt, cl, se, vd, lk, op, ar, ln, en, so, lv, ed, pa, fp, fc, dp, hd, hc) (nI t) :=
  And.intro (vp_in_nI ht (by decide)) (pk_eq d 0 h0 h1 (by rw [nI_clamp (by omega)]; exact hdp))
theorem lx_top {post : Int32 → Prop} {t e : Nat} (ht : t < 4) (hdp : dp t = nI (e + 1)) (h : post (nI (t * 8 + e))) : wpX_topFrame post (nl, nt, cl, se, vd, lk, op, ar, ln, en, so, lv, ed, pa, fp, fc, dp, hd, hc) (nI t) :=
  And.intro (vp_in_nI ht (by decide)) (ek_v (P := post) (by rw [nI_clamp (by omega), hdp, ll_top]) h)
theorem lx_cell {post : Int32 → Prop} {t e p c : Nat} (ht : t < 4) (hdp : dp t = nI (e + 1)) (he : e < 8) (h1 : fp (t * 8 + e) = nI p) (h2 : fc (t * 8 + e) = nI c) (h : post (nI (p * 8 + c))) : wpX_currentCell post (nl, nt, cl, se, vd, lk, op, ar, ln, en, so, lv, ed, pa, fp, fc, dp, hd, hc) (nI t) := by
  unfold wpX_currentCell
  refine lx_top ht hdp ?_
  have hi : vp_in (nI (t * 8 + e)) 32 := vp_in_nI (by omega) (by decide)
  exact ⟨hi, hi, ek_v (P := post) (by rw [nI_clamp (by omega), h1, h2, ll_cel]) h⟩
theorem lx_settle2 {post : St2 → Prop} {t : Nat} (ht : t < 4) : ∀ (n i d : Nat) (dp : Nat → Int32), i + d ≤ 8 → d < n → dp t = nI d → ll_FR ln fp fc (t * 8) d → post (nl, nt, cl, se, vd, lk, op, ar, ln, en, so, lv, ed, pa, fp, fc, upd dp t (nI (ll_sd ln fp fc (t * 8) d)), hd, hc) → wX_settle_2 post (nI t) nl nt cl se vd lk n (nI i) op ar ln en so lv ed pa fp fc dp hd hc := by
  intro n
  induction n with
  | zero => intro i d dp hi hn; omega
  | succ n ih =>
    intro i d dp hi hn hdp hF hp
    refine pk_le 8 i (fun h8 => ?_) (fun h8 => ?_)
    · have e : d = 0 := by omega
      subst e
      rw [show ll_sd ln fp fc (t * 8) 0 = 0 from rfl, ll_ui dp t _ hdp] at hp
      exact hp
    · cases d with
      | zero =>
        rw [show ll_sd ln fp fc (t * 8) 0 = 0 from rfl, ll_ui dp t _ hdp] at hp
        exact lx_isDone ht hdp (by omega) (fun _ => br_f (by decide) hp) (fun h => absurd rfl h)
      | succ d =>
        obtain ⟨p, c, m, e1, e2, e3, e4, e5, e6, e7⟩ := hF d (by omega)
        refine lx_isDone ht hdp (by omega) (fun h => absurd h (by omega)) (fun _ => br_t rfl ?_)
        refine lx_top ht hdp ?_
        have hi1 : vp_in (nI (t * 8 + d)) 32 := vp_in_nI (by omega) (by decide)
        have ht1 : vp_in (nI t) 4 := vp_in_nI ht (by decide)
        have c1 : (nI (t * 8 + d)).toNatClampNeg = t * 8 + d := nI_clamp (by omega)
        have c2 : (nI p).toNatClampNeg = p := nI_clamp (by omega)
        have c3 : (nI t).toNatClampNeg = t := nI_clamp (by omega)
        rw [c1, e1, e4, c2, e5, c3]
        refine ⟨hi1, hi1, vp_in_nI e3 (by decide), pk_le m c (fun h => ?_) (fun h => ?_)⟩
        · refine ⟨ht1, ht1, nm_r (e' := upd dp t (nI d)) (by rw [hdp, nI_pred]) (nm_r (nI_1 i) ?_)⟩
          refine ih (i + 1) d (upd dp t (nI d)) (by omega) (by omega) pk_us (ll_FRle hF (by omega)) ?_
          rw [ll_sd_f e1 e3 e4 e5 (by omega) e7] at hp
          rw [ll_uu]
          exact hp
        · rw [ll_sd_t e1 e3 e4 e5 (by omega) e7, ll_ui dp t _ hdp] at hp
          exact hp
theorem lx_settle2_2 {post : St2 → Prop} {t : Nat} (ht : t < 4) : ∀ (n i d : Nat) (dp : Nat → Int32), i + d ≤ 8 → d < n → dp t = nI d → ll_FR ln fp fc (t * 8) d → post (nl, nt, cl, se, vd, lk, op, ar, ln, en, so, lv, ed, pa, fp, fc, upd dp t (nI (ll_sd ln fp fc (t * 8) d)), hd, hc) → wX_settle_2_2 post (nI t) nl nt cl se vd lk n (nI i) op ar ln en so lv ed pa fp fc dp hd hc := by
  intro n
  induction n with
  | zero => intro i d dp hi hn; omega
  | succ n ih =>
    intro i d dp hi hn hdp hF hp
    refine pk_le 8 i (fun h8 => ?_) (fun h8 => ?_)
    · have e : d = 0 := by omega
      subst e
      rw [show ll_sd ln fp fc (t * 8) 0 = 0 from rfl, ll_ui dp t _ hdp] at hp
      exact hp
    · cases d with
      | zero =>
        rw [show ll_sd ln fp fc (t * 8) 0 = 0 from rfl, ll_ui dp t _ hdp] at hp
        exact lx_isDone ht hdp (by omega) (fun _ => br_f (by decide) hp) (fun h => absurd rfl h)
      | succ d =>
        obtain ⟨p, c, m, e1, e2, e3, e4, e5, e6, e7⟩ := hF d (by omega)
        refine lx_isDone ht hdp (by omega) (fun h => absurd h (by omega)) (fun _ => br_t rfl ?_)
        refine lx_top ht hdp ?_
        have hi1 : vp_in (nI (t * 8 + d)) 32 := vp_in_nI (by omega) (by decide)
        have ht1 : vp_in (nI t) 4 := vp_in_nI ht (by decide)
        have c1 : (nI (t * 8 + d)).toNatClampNeg = t * 8 + d := nI_clamp (by omega)
        have c2 : (nI p).toNatClampNeg = p := nI_clamp (by omega)
        have c3 : (nI t).toNatClampNeg = t := nI_clamp (by omega)
        rw [c1, e1, e4, c2, e5, c3]
        refine ⟨hi1, hi1, vp_in_nI e3 (by decide), pk_le m c (fun h => ?_) (fun h => ?_)⟩
        · refine ⟨ht1, ht1, nm_r (e' := upd dp t (nI d)) (by rw [hdp, nI_pred]) (nm_r (nI_1 i) ?_)⟩
          refine ih (i + 1) d (upd dp t (nI d)) (by omega) (by omega) pk_us (ll_FRle hF (by omega)) ?_
          rw [ll_sd_f e1 e3 e4 e5 (by omega) e7] at hp
          rw [ll_uu]
          exact hp
        · rw [ll_sd_t e1 e3 e4 e5 (by omega) e7, ll_ui dp t _ hdp] at hp
          exact hp
theorem lx_settle {post : St2 → Prop} {t d : Nat} (ht : t < 4) (h8 : d ≤ 8) (hdp : dp t = nI d) (hF : ll_FR ln fp fc (t * 8) d) (hp : post (nl, nt, cl, se, vd, lk, op, ar, ln, en, so, lv, ed, pa, fp, fc, upd dp t (nI (ll_sd ln fp fc (t * 8) d)), hd, hc)) : wpX_settle post (nl, nt, cl, se, vd, lk, op, ar, ln, en, so, lv, ed, pa, fp, fc, dp, hd, hc) (nI t) :=
  ⟨9, lx_settle2 ht 9 0 d dp (by omega) (by omega) hdp hF hp⟩
theorem lx_settle_2 {post : St2 → Prop} {t d : Nat} (ht : t < 4) (h8 : d ≤ 8) (hdp : dp t = nI d) (hF : ll_FR ln fp fc (t * 8) d) (hp : post (nl, nt, cl, se, vd, lk, op, ar, ln, en, so, lv, ed, pa, fp, fc, upd dp t (nI (ll_sd ln fp fc (t * 8) d)), hd, hc)) : wpX_settle_2 post (nl, nt, cl, se, vd, lk, op, ar, ln, en, so, lv, ed, pa, fp, fc, dp, hd, hc) (nI t) :=
  ⟨9, lx_settle2_2 ht 9 0 d dp (by omega) (by omega) hdp hF hp⟩
theorem lx_push {post : St2 → Prop} {t d : Nat} {q : Int32} (ht : t < 4) (h8 : d < 8) (hdp : dp t = nI d) (hp : post (nl, nt, cl, se, vd, lk, op, ar, ln, en, so, lv, ed, pa, upd fp (t * 8 + d) q, upd fc (t * 8 + d) 0, upd dp t (nI (d + 1)), hd, hc)) : wpX_push post (nl, nt, cl, se, vd, lk, op, ar, ln, en, so, lv, ed, pa, fp, fc, dp, hd, hc) (nI t) q := by
  have ht1 : vp_in (nI t) 4 := vp_in_nI ht (by decide)
  have hi1 : vp_in (nI (t * 8 + d)) 32 := vp_in_nI (by omega) (by decide)
  have c1 : (nI (t * 8 + d)).toNatClampNeg = t * 8 + d := nI_clamp (by omega)
  have c3 : (nI t).toNatClampNeg = t := nI_clamp (by omega)
  refine And.intro ht1 (nm_r (e' := nI (t * 8 + d)) (by rw [c3, hdp, ll_cel]) ⟨hi1, nm_r (e' := upd fp (t * 8 + d) q) (by rw [c1]) ⟨hi1, nm_r (e' := upd fc (t * 8 + d) 0) (by rw [c1]) ⟨ht1, ht1, nm_r (e' := upd dp t (nI (d + 1))) (by rw [c3, hdp, nI_1]) hp⟩⟩⟩)
theorem lx_push_2 {post : St2 → Prop} {t d : Nat} {q : Int32} (ht : t < 4) (h8 : d < 8) (hdp : dp t = nI d) (hp : post (nl, nt, cl, se, vd, lk, op, ar, ln, en, so, lv, ed, pa, upd fp (t * 8 + d) q, upd fc (t * 8 + d) 0, upd dp t (nI (d + 1)), hd, hc)) : wpX_push_2 post (nl, nt, cl, se, vd, lk, op, ar, ln, en, so, lv, ed, pa, fp, fc, dp, hd, hc) (nI t) q := by
  have ht1 : vp_in (nI t) 4 := vp_in_nI ht (by decide)
  have hi1 : vp_in (nI (t * 8 + d)) 32 := vp_in_nI (by omega) (by decide)
  have c1 : (nI (t * 8 + d)).toNatClampNeg = t * 8 + d := nI_clamp (by omega)
  have c3 : (nI t).toNatClampNeg = t := nI_clamp (by omega)
  refine And.intro ht1 (nm_r (e' := nI (t * 8 + d)) (by rw [c3, hdp, ll_cel]) ⟨hi1, nm_r (e' := upd fp (t * 8 + d) q) (by rw [c1]) ⟨hi1, nm_r (e' := upd fc (t * 8 + d) 0) (by rw [c1]) ⟨ht1, ht1, nm_r (e' := upd dp t (nI (d + 1))) (by rw [c3, hdp, nI_1]) hp⟩⟩⟩)
theorem lx_start {post : St2 → Prop} {t p m : Nat} (ht : t < 4) (he : en t = nI p) (hp8 : p < 8) (hl : ln p = nI m) (hm : m ≤ 8) (hp : post (nl, nt, cl, se, vd, lk, op, ar, ln, en, so, lv, ed, pa, upd fp (t * 8) (nI p), upd fc (t * 8) 0, upd dp t (nI (if 0 < m then 1 else 0)), hd, hc)) : wpX_start post (nl, nt, cl, se, vd, lk, op, ar, ln, en, so, lv, ed, pa, fp, fc, dp, hd, hc) (nI t) := by
  have ht1 : vp_in (nI t) 4 := vp_in_nI ht (by decide)
  have c3 : (nI t).toNatClampNeg = t := nI_clamp (by omega)
  refine And.intro ht1 (nm_r (e' := upd dp t 0) (by rw [c3]) ⟨ht1, ?_⟩)
  rw [c3, he]
  refine lx_push (d := 0) ht (by omega) pk_us ?_
  have f1 : upd fp (t * 8 + 0) (nI p) (t * 8 + 0) = nI p := pk_us
  have f2 : upd fc (t * 8 + 0) 0 (t * 8 + 0) = nI 0 := pk_us
  refine lx_settle (d := 1) ht (by omega) pk_us (fun i hi => ?_) ?_
  · have e : i = 0 := by omega
    subst e
    exact ⟨p, 0, m, f1, by omega, hp8, f2, hl, by omega, hm⟩
  · rw [ll_uu, ll_uu]
    by_cases h : 0 < m
    · rw [ll_sd_t f1 hp8 f2 hl h hm]
      rw [if_pos h] at hp
      exact hp
    · rw [ll_sd_f f1 hp8 f2 hl (by omega) hm]
      rw [if_neg h] at hp
      exact hp
theorem lx_start_2 {post : St2 → Prop} {t p m : Nat} (ht : t < 4) (he : en t = nI p) (hp8 : p < 8) (hl : ln p = nI m) (hm : m ≤ 8) (hp : post (nl, nt, cl, se, vd, lk, op, ar, ln, en, so, lv, ed, pa, upd fp (t * 8) (nI p), upd fc (t * 8) 0, upd dp t (nI (if 0 < m then 1 else 0)), hd, hc)) : wpX_start_2 post (nl, nt, cl, se, vd, lk, op, ar, ln, en, so, lv, ed, pa, fp, fc, dp, hd, hc) (nI t) := by
  have ht1 : vp_in (nI t) 4 := vp_in_nI ht (by decide)
  have c3 : (nI t).toNatClampNeg = t := nI_clamp (by omega)
  refine And.intro ht1 (nm_r (e' := upd dp t 0) (by rw [c3]) ⟨ht1, ?_⟩)
  rw [c3, he]
  refine lx_push_2 (d := 0) ht (by omega) pk_us ?_
  have f1 : upd fp (t * 8 + 0) (nI p) (t * 8 + 0) = nI p := pk_us
  have f2 : upd fc (t * 8 + 0) 0 (t * 8 + 0) = nI 0 := pk_us
  refine lx_settle_2 (d := 1) ht (by omega) pk_us (fun i hi => ?_) ?_
  · have e : i = 0 := by omega
    subst e
    exact ⟨p, 0, m, f1, by omega, hp8, f2, hl, by omega, hm⟩
  · rw [ll_uu, ll_uu]
    by_cases h : 0 < m
    · rw [ll_sd_t f1 hp8 f2 hl h hm]
      rw [if_pos h] at hp
      exact hp
    · rw [ll_sd_f f1 hp8 f2 hl (by omega) hm]
      rw [if_neg h] at hp
      exact hp
theorem lx_acq {post : St2 → Prop} {a : Nat} {t : Int32} (ha : a < 8) (h : post (nl, nt, cl, se, vd, lk, op, ar, ln, en, so, lv, ed, pa, fp, fc, dp, upd hd a t, upd hc a (hc a + 1))) : wpX_acquire post (nl, nt, cl, se, vd, lk, op, ar, ln, en, so, lv, ed, pa, fp, fc, dp, hd, hc) t (nI a) := by
  have hi : vp_in (nI a) 8 := vp_in_nI ha (by decide)
  have c1 : (nI a).toNatClampNeg = a := nI_clamp (by omega)
  exact And.intro hi (nm_r (e' := upd hd a t) (by rw [c1]) ⟨hi, hi, nm_r (e' := upd hc a (hc a + 1)) (by rw [c1]) h⟩)
theorem lx_acq_2 {post : St2 → Prop} {a : Nat} {t : Int32} (ha : a < 8) (h : post (nl, nt, cl, se, vd, lk, op, ar, ln, en, so, lv, ed, pa, fp, fc, dp, upd hd a t, upd hc a (hc a + 1))) : wpX_acquire_2 post (nl, nt, cl, se, vd, lk, op, ar, ln, en, so, lv, ed, pa, fp, fc, dp, hd, hc) t (nI a) := by
  have hi : vp_in (nI a) 8 := vp_in_nI ha (by decide)
  have c1 : (nI a).toNatClampNeg = a := nI_clamp (by omega)
  exact And.intro hi (nm_r (e' := upd hd a t) (by rw [c1]) ⟨hi, hi, nm_r (e' := upd hc a (hc a + 1)) (by rw [c1]) h⟩)
theorem lx_rel0 {post : St2 → Prop} {a : Nat} {t : Int32} (ha : a < 8) (hn : ¬ hd a = t) (h : post (nl, nt, cl, se, vd, lk, op, ar, ln, en, so, lv, ed, pa, fp, fc, dp, hd, hc)) : wpX_release post (nl, nt, cl, se, vd, lk, op, ar, ln, en, so, lv, ed, pa, fp, fc, dp, hd, hc) t (nI a) := by
  have hi : vp_in (nI a) 8 := vp_in_nI ha (by decide)
  have c1 : (nI a).toNatClampNeg = a := nI_clamp (by omega)
  exact And.intro hi (br_f (by rw [c1]; exact hn) h)
theorem lx_rel0_2 {post : St2 → Prop} {a : Nat} {t : Int32} (ha : a < 8) (hn : ¬ hd a = t) (h : post (nl, nt, cl, se, vd, lk, op, ar, ln, en, so, lv, ed, pa, fp, fc, dp, hd, hc)) : wpX_release_2 post (nl, nt, cl, se, vd, lk, op, ar, ln, en, so, lv, ed, pa, fp, fc, dp, hd, hc) t (nI a) := by
  have hi : vp_in (nI a) 8 := vp_in_nI ha (by decide)
  have c1 : (nI a).toNatClampNeg = a := nI_clamp (by omega)
  exact And.intro hi (br_f (by rw [c1]; exact hn) h)
theorem lx_rel1 {post : St2 → Prop} {a : Nat} {t : Int32} (ha : a < 8) (hn : hd a = t) (h : post (nl, nt, cl, se, vd, lk, op, ar, ln, en, so, lv, ed, pa, fp, fc, dp, (if hc a - 1 = 0 then upd hd a (-1) else hd), upd hc a (hc a - 1))) : wpX_release post (nl, nt, cl, se, vd, lk, op, ar, ln, en, so, lv, ed, pa, fp, fc, dp, hd, hc) t (nI a) := by
  have hi : vp_in (nI a) 8 := vp_in_nI ha (by decide)
  have c1 : (nI a).toNatClampNeg = a := nI_clamp (by omega)
  refine And.intro hi (br_t (by rw [c1]; exact hn) ⟨hi, hi, nm_r (e' := upd hc a (hc a - 1)) (by rw [c1]) ⟨hi, ?_⟩⟩)
  rw [c1, pk_us]
  by_cases z : hc a - 1 = 0
  · rw [if_pos z] at h
    exact br_t z ⟨hi, nm_e h⟩
  · rw [if_neg z] at h
    exact br_f z h
theorem lx_rel1_2 {post : St2 → Prop} {a : Nat} {t : Int32} (ha : a < 8) (hn : hd a = t) (h : post (nl, nt, cl, se, vd, lk, op, ar, ln, en, so, lv, ed, pa, fp, fc, dp, (if hc a - 1 = 0 then upd hd a (-1) else hd), upd hc a (hc a - 1))) : wpX_release_2 post (nl, nt, cl, se, vd, lk, op, ar, ln, en, so, lv, ed, pa, fp, fc, dp, hd, hc) t (nI a) := by
  have hi : vp_in (nI a) 8 := vp_in_nI ha (by decide)
  have c1 : (nI a).toNatClampNeg = a := nI_clamp (by omega)
  refine And.intro hi (br_t (by rw [c1]; exact hn) ⟨hi, hi, nm_r (e' := upd hc a (hc a - 1)) (by rw [c1]) ⟨hi, ?_⟩⟩)
  rw [c1, pk_us]
  by_cases z : hc a - 1 = 0
  · rw [if_pos z] at h
    exact br_t z ⟨hi, nm_e h⟩
  · rw [if_neg z] at h
    exact br_f z h
end
end
section
/-! one instruction, both sides -/
/-- the edges that a thread t adds when it wants lock a -/
def ll_ae (h : Nat → Int32) (t : Int32) (a : Nat) : Nat → (Nat → Int32) → (Nat → Int32)
  | 0, e => e
  | k + 1, e => if h k = t then upd (ll_ae h t a k e) (k * 8 + a) 1 else ll_ae h t a k e
/-! the relation's parts; one instruction in lockstep -/
def ll_CI (L : Nat) (op ar ln : Nat → Int32) : Prop :=
  ∀ p, p < 8 → ∃ n, n ≤ 8 ∧ ln p = nI n ∧ ∀ i, i < n → (op (p * 8 + i) = 0 ∨ (op (p * 8 + i) = 1 ∧ ∃ a, a < L ∧ ar (p * 8 + i) = nI a) ∨ (op (p * 8 + i) = 2 ∧ ∃ a, a < L ∧ ar (p * 8 + i) = nI a) ∨ (op (p * 8 + i) = 3 ∧ ∃ a, p < a ∧ a < 8 ∧ ar (p * 8 + i) = nI a))
def ll_TO (ln fp fc dp : Nat → Int32) (t : Nat) : Prop :=
  ∃ d, d ≤ 8 ∧ dp t = nI d ∧ ll_FR ln fp fc (t * 8) d ∧ ll_sd ln fp fc (t * 8) d = d
def ll_TS (T : Nat) (ln fp fc dp : Nat → Int32) : Prop :=
  (∀ t, t < T → ll_TO ln fp fc dp t) ∧ (∀ t, T ≤ t → t < 4 → dp t = 0)
/-! freeing, starting, the solo runs in lockstep -/
def ll_fl (L : Nat) (f : Nat → Int32) (x : Int32) : Nat → Int32 := fun j => if j < L then x else f j
def ll_EN (en : Nat → Int32) : Prop := ∀ t, t < 4 → ∃ p, p < 8 ∧ en t = nI p
def ll_EB (L : Nat) (ed : Nat → Int32) : Prop := ll_B ed ∧ ∀ a b, a < 8 → b < 8 → ¬ ed (a * 8 + b) = 0 → a < L ∧ b < L
section
variable {nl nt cl se vd lk : Int32} {op ar ln en so lv ed pa fp fc dp hd hc fp' fc' dp' hd' hc' : Nat → Int32}
theorem lx_77 {post : St2 → Prop} {t d : Nat} (ht : t < 4) (h8 : d ≤ 8) (hdp : dp t = nI d) (hF : ll_FR ln fp fc (t * 8) d) (hp : post (nl, nt, cl, se, vd, lk, op, ar, ln, en, so, lv, ed, pa, fp, fc, upd dp t (nI (ll_sd ln fp fc (t * 8) d)), hd, hc)) : wX_execute_77 post (nI t) nl nt cl se vd lk op ar ln en so lv ed pa fp fc dp hd hc := by
  unfold wX_execute_77
  exact lx_settle_2 ht h8 hdp hF hp
theorem lx_77_2 {post : St2 → Prop} {t d : Nat} (ht : t < 4) (h8 : d ≤ 8) (hdp : dp t = nI d) (hF : ll_FR ln fp fc (t * 8) d) (hp : post (nl, nt, cl, se, vd, lk, op, ar, ln, en, so, lv, ed, pa, fp, fc, upd dp t (nI (ll_sd ln fp fc (t * 8) d)), hd, hc)) : wX_execute_2_77 post (nI t) nl nt cl se vd lk op ar ln en so lv ed pa fp fc dp hd hc := by
  unfold wX_execute_2_77
  exact lx_settle ht h8 hdp hF hp
theorem lx_exN {post : St2 → Prop} {t e p c : Nat} (ht : t < 4) (he : e < 8) (hdp : dp t = nI (e + 1)) (h1 : fp (t * 8 + e) = nI p) (hp8 : p < 8) (h2 : fc (t * 8 + e) = nI c) (hc8 : c < 8) (ho : op (p * 8 + c) = 0) (hF : ll_FR ln fp (upd fc (t * 8 + e) (nI (c + 1))) (t * 8) (e + 1)) (hp : post (nl, nt, cl, se, vd, lk, op, ar, ln, en, so, lv, ed, pa, fp, upd fc (t * 8 + e) (nI (c + 1)), upd dp t (nI (ll_sd ln fp (upd fc (t * 8 + e) (nI (c + 1))) (t * 8) (e + 1))), hd, hc)) : wpX_execute post (nl, nt, cl, se, vd, lk, op, ar, ln, en, so, lv, ed, pa, fp, fc, dp, hd, hc) (nI t) := by
  unfold wpX_execute
  refine lx_cell ht hdp he h1 h2 ?_
  have hz : vp_in (nI (p * 8 + c)) 64 := vp_in_nI (by omega) (by decide)
  have hi : vp_in (nI (t * 8 + e)) 32 := vp_in_nI (by omega) (by decide)
  have c1 : (nI (p * 8 + c)).toNatClampNeg = p * 8 + c := nI_clamp (by omega)
  have c2 : (nI (t * 8 + e)).toNatClampNeg = t * 8 + e := nI_clamp (by omega)
  refine ⟨hz, nm_r (e' := 0) (by rw [c1, ho]) ⟨hz, nm_r (e' := ar (p * 8 + c)) (by rw [c1]) ?_⟩⟩
  refine lx_top ht hdp ?_
  refine ⟨hi, hi, nm_r (e' := upd fc (t * 8 + e) (nI (c + 1))) (by rw [c2, h2, nI_1]) ?_⟩
  exact br_f (by decide) (br_f (by decide) (br_f (by decide) (lx_77 ht (by omega) hdp hF hp)))
theorem lx_exN_2 {post : St2 → Prop} {t e p c : Nat} (ht : t < 4) (he : e < 8) (hdp : dp t = nI (e + 1)) (h1 : fp (t * 8 + e) = nI p) (hp8 : p < 8) (h2 : fc (t * 8 + e) = nI c) (hc8 : c < 8) (ho : op (p * 8 + c) = 0) (hF : ll_FR ln fp (upd fc (t * 8 + e) (nI (c + 1))) (t * 8) (e + 1)) (hp : post (nl, nt, cl, se, vd, lk, op, ar, ln, en, so, lv, ed, pa, fp, upd fc (t * 8 + e) (nI (c + 1)), upd dp t (nI (ll_sd ln fp (upd fc (t * 8 + e) (nI (c + 1))) (t * 8) (e + 1))), hd, hc)) : wpX_execute_2 post (nl, nt, cl, se, vd, lk, op, ar, ln, en, so, lv, ed, pa, fp, fc, dp, hd, hc) (nI t) := by
  unfold wpX_execute_2
  refine lx_cell ht hdp he h1 h2 ?_
  have hz : vp_in (nI (p * 8 + c)) 64 := vp_in_nI (by omega) (by decide)
  have hi : vp_in (nI (t * 8 + e)) 32 := vp_in_nI (by omega) (by decide)
  have c1 : (nI (p * 8 + c)).toNatClampNeg = p * 8 + c := nI_clamp (by omega)
  have c2 : (nI (t * 8 + e)).toNatClampNeg = t * 8 + e := nI_clamp (by omega)
  refine ⟨hz, nm_r (e' := 0) (by rw [c1, ho]) ⟨hz, nm_r (e' := ar (p * 8 + c)) (by rw [c1]) ?_⟩⟩
  refine lx_top ht hdp ?_
  refine ⟨hi, hi, nm_r (e' := upd fc (t * 8 + e) (nI (c + 1))) (by rw [c2, h2, nI_1]) ?_⟩
  exact br_f (by decide) (br_f (by decide) (br_f (by decide) (lx_77_2 ht (by omega) hdp hF hp)))
theorem lx_exA {post : St2 → Prop} {t e p c a : Nat} (ht : t < 4) (he : e < 8) (hdp : dp t = nI (e + 1)) (h1 : fp (t * 8 + e) = nI p) (hp8 : p < 8) (h2 : fc (t * 8 + e) = nI c) (hc8 : c < 8) (ho : op (p * 8 + c) = 1) (ha : ar (p * 8 + c) = nI a) (ha8 : a < 8) (hF : ll_FR ln fp (upd fc (t * 8 + e) (nI (c + 1))) (t * 8) (e + 1)) (hp : post (nl, nt, cl, se, vd, lk, op, ar, ln, en, so, lv, ed, pa, fp, upd fc (t * 8 + e) (nI (c + 1)), upd dp t (nI (ll_sd ln fp (upd fc (t * 8 + e) (nI (c + 1))) (t * 8) (e + 1))), upd hd a (nI t), upd hc a (hc a + 1))) : wpX_execute post (nl, nt, cl, se, vd, lk, op, ar, ln, en, so, lv, ed, pa, fp, fc, dp, hd, hc) (nI t) := by
  unfold wpX_execute
  refine lx_cell ht hdp he h1 h2 ?_
  have hz : vp_in (nI (p * 8 + c)) 64 := vp_in_nI (by omega) (by decide)
  have hi : vp_in (nI (t * 8 + e)) 32 := vp_in_nI (by omega) (by decide)
  have c1 : (nI (p * 8 + c)).toNatClampNeg = p * 8 + c := nI_clamp (by omega)
  have c2 : (nI (t * 8 + e)).toNatClampNeg = t * 8 + e := nI_clamp (by omega)
  refine ⟨hz, nm_r (e' := 1) (by rw [c1, ho]) ⟨hz, nm_r (e' := nI a) (by rw [c1, ha]) ?_⟩⟩
  refine lx_top ht hdp ?_
  refine ⟨hi, hi, nm_r (e' := upd fc (t * 8 + e) (nI (c + 1))) (by rw [c2, h2, nI_1]) ?_⟩
  exact br_t rfl (lx_acq ha8 (lx_77 ht (by omega) hdp hF hp))
theorem lx_exA_2 {post : St2 → Prop} {t e p c a : Nat} (ht : t < 4) (he : e < 8) (hdp : dp t = nI (e + 1)) (h1 : fp (t * 8 + e) = nI p) (hp8 : p < 8) (h2 : fc (t * 8 + e) = nI c) (hc8 : c < 8) (ho : op (p * 8 + c) = 1) (ha : ar (p * 8 + c) = nI a) (ha8 : a < 8) (hF : ll_FR ln fp (upd fc (t * 8 + e) (nI (c + 1))) (t * 8) (e + 1)) (hp : post (nl, nt, cl, se, vd, lk, op, ar, ln, en, so, lv, ed, pa, fp, upd fc (t * 8 + e) (nI (c + 1)), upd dp t (nI (ll_sd ln fp (upd fc (t * 8 + e) (nI (c + 1))) (t * 8) (e + 1))), upd hd a (nI t), upd hc a (hc a + 1))) : wpX_execute_2 post (nl, nt, cl, se, vd, lk, op, ar, ln, en, so, lv, ed, pa, fp, fc, dp, hd, hc) (nI t) := by
  unfold wpX_execute_2
  refine lx_cell ht hdp he h1 h2 ?_
  have hz : vp_in (nI (p * 8 + c)) 64 := vp_in_nI (by omega) (by decide)
  have hi : vp_in (nI (t * 8 + e)) 32 := vp_in_nI (by omega) (by decide)
  have c1 : (nI (p * 8 + c)).toNatClampNeg = p * 8 + c := nI_clamp (by omega)
  have c2 : (nI (t * 8 + e)).toNatClampNeg = t * 8 + e := nI_clamp (by omega)
  refine ⟨hz, nm_r (e' := 1) (by rw [c1, ho]) ⟨hz, nm_r (e' := nI a) (by rw [c1, ha]) ?_⟩⟩
  refine lx_top ht hdp ?_
  refine ⟨hi, hi, nm_r (e' := upd fc (t * 8 + e) (nI (c + 1))) (by rw [c2, h2, nI_1]) ?_⟩
  exact br_t rfl (lx_acq_2 ha8 (lx_77_2 ht (by omega) hdp hF hp))
theorem lx_exR0 {post : St2 → Prop} {t e p c a : Nat} (ht : t < 4) (he : e < 8) (hdp : dp t = nI (e + 1)) (h1 : fp (t * 8 + e) = nI p) (hp8 : p < 8) (h2 : fc (t * 8 + e) = nI c) (hc8 : c < 8) (ho : op (p * 8 + c) = 2) (ha : ar (p * 8 + c) = nI a) (ha8 : a < 8) (hn : ¬ hd a = nI t) (hF : ll_FR ln fp (upd fc (t * 8 + e) (nI (c + 1))) (t * 8) (e + 1)) (hp : post (nl, nt, cl, se, vd, lk, op, ar, ln, en, so, lv, ed, pa, fp, upd fc (t * 8 + e) (nI (c + 1)), upd dp t (nI (ll_sd ln fp (upd fc (t * 8 + e) (nI (c + 1))) (t * 8) (e + 1))), hd, hc)) : wpX_execute post (nl, nt, cl, se, vd, lk, op, ar, ln, en, so, lv, ed, pa, fp, fc, dp, hd, hc) (nI t) := by
  unfold wpX_execute
  refine lx_cell ht hdp he h1 h2 ?_
  have hz : vp_in (nI (p * 8 + c)) 64 := vp_in_nI (by omega) (by decide)
  have hi : vp_in (nI (t * 8 + e)) 32 := vp_in_nI (by omega) (by decide)
  have c1 : (nI (p * 8 + c)).toNatClampNeg = p * 8 + c := nI_clamp (by omega)
  have c2 : (nI (t * 8 + e)).toNatClampNeg = t * 8 + e := nI_clamp (by omega)
  refine ⟨hz, nm_r (e' := 2) (by rw [c1, ho]) ⟨hz, nm_r (e' := nI a) (by rw [c1, ha]) ?_⟩⟩
  refine lx_top ht hdp ?_
  refine ⟨hi, hi, nm_r (e' := upd fc (t * 8 + e) (nI (c + 1))) (by rw [c2, h2, nI_1]) ?_⟩
  exact br_f (by decide) (br_t rfl (lx_rel0 ha8 hn (lx_77 ht (by omega) hdp hF hp)))
theorem lx_exR0_2 {post : St2 → Prop} {t e p c a : Nat} (ht : t < 4) (he : e < 8) (hdp : dp t = nI (e + 1)) (h1 : fp (t * 8 + e) = nI p) (hp8 : p < 8) (h2 : fc (t * 8 + e) = nI c) (hc8 : c < 8) (ho : op (p * 8 + c) = 2) (ha : ar (p * 8 + c) = nI a) (ha8 : a < 8) (hn : ¬ hd a = nI t) (hF : ll_FR ln fp (upd fc (t * 8 + e) (nI (c + 1))) (t * 8) (e + 1)) (hp : post (nl, nt, cl, se, vd, lk, op, ar, ln, en, so, lv, ed, pa, fp, upd fc (t * 8 + e) (nI (c + 1)), upd dp t (nI (ll_sd ln fp (upd fc (t * 8 + e) (nI (c + 1))) (t * 8) (e + 1))), hd, hc)) : wpX_execute_2 post (nl, nt, cl, se, vd, lk, op, ar, ln, en, so, lv, ed, pa, fp, fc, dp, hd, hc) (nI t) := by
  unfold wpX_execute_2
  refine lx_cell ht hdp he h1 h2 ?_
  have hz : vp_in (nI (p * 8 + c)) 64 := vp_in_nI (by omega) (by decide)
  have hi : vp_in (nI (t * 8 + e)) 32 := vp_in_nI (by omega) (by decide)
  have c1 : (nI (p * 8 + c)).toNatClampNeg = p * 8 + c := nI_clamp (by omega)
  have c2 : (nI (t * 8 + e)).toNatClampNeg = t * 8 + e := nI_clamp (by omega)
  refine ⟨hz, nm_r (e' := 2) (by rw [c1, ho]) ⟨hz, nm_r (e' := nI a) (by rw [c1, ha]) ?_⟩⟩
  refine lx_top ht hdp ?_
  refine ⟨hi, hi, nm_r (e' := upd fc (t * 8 + e) (nI (c + 1))) (by rw [c2, h2, nI_1]) ?_⟩
  exact br_f (by decide) (br_t rfl (lx_rel0_2 ha8 hn (lx_77_2 ht (by omega) hdp hF hp)))
theorem lx_exR1 {post : St2 → Prop} {t e p c a : Nat} (ht : t < 4) (he : e < 8) (hdp : dp t = nI (e + 1)) (h1 : fp (t * 8 + e) = nI p) (hp8 : p < 8) (h2 : fc (t * 8 + e) = nI c) (hc8 : c < 8) (ho : op (p * 8 + c) = 2) (ha : ar (p * 8 + c) = nI a) (ha8 : a < 8) (hn : hd a = nI t) (hF : ll_FR ln fp (upd fc (t * 8 + e) (nI (c + 1))) (t * 8) (e + 1)) (hp : post (nl, nt, cl, se, vd, lk, op, ar, ln, en, so, lv, ed, pa, fp, upd fc (t * 8 + e) (nI (c + 1)), upd dp t (nI (ll_sd ln fp (upd fc (t * 8 + e) (nI (c + 1))) (t * 8) (e + 1))), (if hc a - 1 = 0 then upd hd a (-1) else hd), upd hc a (hc a - 1))) : wpX_execute post (nl, nt, cl, se, vd, lk, op, ar, ln, en, so, lv, ed, pa, fp, fc, dp, hd, hc) (nI t) := by
  unfold wpX_execute
  refine lx_cell ht hdp he h1 h2 ?_
  have hz : vp_in (nI (p * 8 + c)) 64 := vp_in_nI (by omega) (by decide)
  have hi : vp_in (nI (t * 8 + e)) 32 := vp_in_nI (by omega) (by decide)
  have c1 : (nI (p * 8 + c)).toNatClampNeg = p * 8 + c := nI_clamp (by omega)
  have c2 : (nI (t * 8 + e)).toNatClampNeg = t * 8 + e := nI_clamp (by omega)
  refine ⟨hz, nm_r (e' := 2) (by rw [c1, ho]) ⟨hz, nm_r (e' := nI a) (by rw [c1, ha]) ?_⟩⟩
  refine lx_top ht hdp ?_
  refine ⟨hi, hi, nm_r (e' := upd fc (t * 8 + e) (nI (c + 1))) (by rw [c2, h2, nI_1]) ?_⟩
  exact br_f (by decide) (br_t rfl (lx_rel1 ha8 hn (lx_77 ht (by omega) hdp hF hp)))
theorem lx_exR1_2 {post : St2 → Prop} {t e p c a : Nat} (ht : t < 4) (he : e < 8) (hdp : dp t = nI (e + 1)) (h1 : fp (t * 8 + e) = nI p) (hp8 : p < 8) (h2 : fc (t * 8 + e) = nI c) (hc8 : c < 8) (ho : op (p * 8 + c) = 2) (ha : ar (p * 8 + c) = nI a) (ha8 : a < 8) (hn : hd a = nI t) (hF : ll_FR ln fp (upd fc (t * 8 + e) (nI (c + 1))) (t * 8) (e + 1)) (hp : post (nl, nt, cl, se, vd, lk, op, ar, ln, en, so, lv, ed, pa, fp, upd fc (t * 8 + e) (nI (c + 1)), upd dp t (nI (ll_sd ln fp (upd fc (t * 8 + e) (nI (c + 1))) (t * 8) (e + 1))), (if hc a - 1 = 0 then upd hd a (-1) else hd), upd hc a (hc a - 1))) : wpX_execute_2 post (nl, nt, cl, se, vd, lk, op, ar, ln, en, so, lv, ed, pa, fp, fc, dp, hd, hc) (nI t) := by
  unfold wpX_execute_2
  refine lx_cell ht hdp he h1 h2 ?_
  have hz : vp_in (nI (p * 8 + c)) 64 := vp_in_nI (by omega) (by decide)
  have hi : vp_in (nI (t * 8 + e)) 32 := vp_in_nI (by omega) (by decide)
  have c1 : (nI (p * 8 + c)).toNatClampNeg = p * 8 + c := nI_clamp (by omega)
  have c2 : (nI (t * 8 + e)).toNatClampNeg = t * 8 + e := nI_clamp (by omega)
  refine ⟨hz, nm_r (e' := 2) (by rw [c1, ho]) ⟨hz, nm_r (e' := nI a) (by rw [c1, ha]) ?_⟩⟩
  refine lx_top ht hdp ?_
  refine ⟨hi, hi, nm_r (e' := upd fc (t * 8 + e) (nI (c + 1))) (by rw [c2, h2, nI_1]) ?_⟩
  exact br_f (by decide) (br_t rfl (lx_rel1_2 ha8 hn (lx_77_2 ht (by omega) hdp hF hp)))
theorem lx_exC {post : St2 → Prop} {t e p c a : Nat} (ht : t < 4) (he : e + 1 < 8) (hdp : dp t = nI (e + 1)) (h1 : fp (t * 8 + e) = nI p) (hp8 : p < 8) (h2 : fc (t * 8 + e) = nI c) (hc8 : c < 8) (ho : op (p * 8 + c) = 3) (ha : ar (p * 8 + c) = nI a) (hF : ll_FR ln (upd fp (t * 8 + (e + 1)) (nI a)) (upd (upd fc (t * 8 + e) (nI (c + 1))) (t * 8 + (e + 1)) 0) (t * 8) (e + 2)) (hp : post (nl, nt, cl, se, vd, lk, op, ar, ln, en, so, lv, ed, pa, upd fp (t * 8 + (e + 1)) (nI a), upd (upd fc (t * 8 + e) (nI (c + 1))) (t * 8 + (e + 1)) 0, upd dp t (nI (ll_sd ln (upd fp (t * 8 + (e + 1)) (nI a)) (upd (upd fc (t * 8 + e) (nI (c + 1))) (t * 8 + (e + 1)) 0) (t * 8) (e + 2))), hd, hc)) : wpX_execute post (nl, nt, cl, se, vd, lk, op, ar, ln, en, so, lv, ed, pa, fp, fc, dp, hd, hc) (nI t) := by
  unfold wpX_execute
  refine lx_cell ht hdp (by omega) h1 h2 ?_
  have hz : vp_in (nI (p * 8 + c)) 64 := vp_in_nI (by omega) (by decide)
  have hi : vp_in (nI (t * 8 + e)) 32 := vp_in_nI (by omega) (by decide)
  have c1 : (nI (p * 8 + c)).toNatClampNeg = p * 8 + c := nI_clamp (by omega)
  have c2 : (nI (t * 8 + e)).toNatClampNeg = t * 8 + e := nI_clamp (by omega)
  refine ⟨hz, nm_r (e' := 3) (by rw [c1, ho]) ⟨hz, nm_r (e' := nI a) (by rw [c1, ha]) ?_⟩⟩
  refine lx_top ht hdp ?_
  refine ⟨hi, hi, nm_r (e' := upd fc (t * 8 + e) (nI (c + 1))) (by rw [c2, h2, nI_1]) ?_⟩
  refine br_f (by decide) (br_f (by decide) (br_t rfl (lx_push_2 ht he hdp (lx_77 (d := e + 2) ht (by omega) pk_us hF ?_))))
  rw [ll_uu]
  exact hp
theorem lx_exC_2 {post : St2 → Prop} {t e p c a : Nat} (ht : t < 4) (he : e + 1 < 8) (hdp : dp t = nI (e + 1)) (h1 : fp (t * 8 + e) = nI p) (hp8 : p < 8) (h2 : fc (t * 8 + e) = nI c) (hc8 : c < 8) (ho : op (p * 8 + c) = 3) (ha : ar (p * 8 + c) = nI a) (hF : ll_FR ln (upd fp (t * 8 + (e + 1)) (nI a)) (upd (upd fc (t * 8 + e) (nI (c + 1))) (t * 8 + (e + 1)) 0) (t * 8) (e + 2)) (hp : post (nl, nt, cl, se, vd, lk, op, ar, ln, en, so, lv, ed, pa, upd fp (t * 8 + (e + 1)) (nI a), upd (upd fc (t * 8 + e) (nI (c + 1))) (t * 8 + (e + 1)) 0, upd dp t (nI (ll_sd ln (upd fp (t * 8 + (e + 1)) (nI a)) (upd (upd fc (t * 8 + e) (nI (c + 1))) (t * 8 + (e + 1)) 0) (t * 8) (e + 2))), hd, hc)) : wpX_execute_2 post (nl, nt, cl, se, vd, lk, op, ar, ln, en, so, lv, ed, pa, fp, fc, dp, hd, hc) (nI t) := by
  unfold wpX_execute_2
  refine lx_cell ht hdp (by omega) h1 h2 ?_
  have hz : vp_in (nI (p * 8 + c)) 64 := vp_in_nI (by omega) (by decide)
  have hi : vp_in (nI (t * 8 + e)) 32 := vp_in_nI (by omega) (by decide)
  have c1 : (nI (p * 8 + c)).toNatClampNeg = p * 8 + c := nI_clamp (by omega)
  have c2 : (nI (t * 8 + e)).toNatClampNeg = t * 8 + e := nI_clamp (by omega)
  refine ⟨hz, nm_r (e' := 3) (by rw [c1, ho]) ⟨hz, nm_r (e' := nI a) (by rw [c1, ha]) ?_⟩⟩
  refine lx_top ht hdp ?_
  refine ⟨hi, hi, nm_r (e' := upd fc (t * 8 + e) (nI (c + 1))) (by rw [c2, h2, nI_1]) ?_⟩
  refine br_f (by decide) (br_f (by decide) (br_t rfl (lx_push ht he hdp (lx_77_2 (d := e + 2) ht (by omega) pk_us hF ?_))))
  rw [ll_uu]
  exact hp
theorem lx_ae38 {post : St2 → Prop} {t : Int32} {L a : Nat} {e0 : Nat → Int32} (hL : L ≤ 8) (ha : a < 8) (hp : post (nI L, nt, cl, se, vd, lk, op, ar, ln, en, so, lv, ll_ae hd t a L e0, pa, fp, fc, dp, hd, hc)) : ∀ (r n k : Nat), k + r = L → r < n → wX_addEdges_38 post t (nI a) (nI L) nt cl se vd lk n (nI k) op ar ln en so lv (ll_ae hd t a k e0) pa fp fc dp hd hc := by
  intro r
  induction r with
  | zero =>
    intro n k hk hn
    obtain ⟨n, rfl⟩ : ∃ m, n = m + 1 := ⟨n - 1, by omega⟩
    have e : k = L := by omega
    subst e
    exact pk_le k k (fun _ => hp) (fun h => absurd h (by omega))
  | succ r ih =>
    intro n k hk hn
    obtain ⟨n, rfl⟩ : ∃ m, n = m + 1 := ⟨n - 1, by omega⟩
    have c1 : (nI k).toNatClampNeg = k := nI_clamp (by omega)
    have q := ih n (k + 1) (by omega) (by omega)
    refine pk_le L k (fun h => absurd h (by omega)) (fun _ => And.intro (vp_in_nI (by omega) (by decide)) ?_)
    by_cases z : hd k = t
    · have e : ll_ae hd t a (k + 1) e0 = upd (ll_ae hd t a k e0) (k * 8 + a) 1 := if_pos z
      rw [e] at q
      exact br_t (by rw [c1]; exact z) ⟨pk_in (k * 8 + a) 64 (by omega) (ll_cel k a), nm_r (e' := upd (ll_ae hd t a k e0) (k * 8 + a) 1) (by rw [ll_cel, nI_clamp (by omega)]) (nm_r (nI_1 k) q)⟩
    · have e : ll_ae hd t a (k + 1) e0 = ll_ae hd t a k e0 := if_neg z
      rw [e] at q
      exact br_f (by rw [c1]; exact z) (nm_r (nI_1 k) q)
theorem lx_ae0 {post : St2 → Prop} {t e p c : Nat} (ht : t < 4) (he : e < 8) (hdp : dp t = nI (e + 1)) (h1 : fp (t * 8 + e) = nI p) (hp8 : p < 8) (h2 : fc (t * 8 + e) = nI c) (hc8 : c < 8) (ho : ¬ op (p * 8 + c) = 1) (hp : post (nl, nt, cl, se, vd, lk, op, ar, ln, en, so, lv, ed, pa, fp, fc, dp, hd, hc)) : wpX_addEdges post (nl, nt, cl, se, vd, lk, op, ar, ln, en, so, lv, ed, pa, fp, fc, dp, hd, hc) (nI t) := by
  unfold wpX_addEdges
  refine lx_cell ht hdp he h1 h2 ?_
  have hz : vp_in (nI (p * 8 + c)) 64 := vp_in_nI (by omega) (by decide)
  have c1 : (nI (p * 8 + c)).toNatClampNeg = p * 8 + c := nI_clamp (by omega)
  exact ⟨hz, br_f (by rw [c1]; exact ho) hp⟩
theorem lx_ae1 {post : St2 → Prop} {t e p c a : Nat} (ht : t < 4) (he : e < 8) (hdp : dp t = nI (e + 1)) (h1 : fp (t * 8 + e) = nI p) (hp8 : p < 8) (h2 : fc (t * 8 + e) = nI c) (hc8 : c < 8) (ho : op (p * 8 + c) = 1) (ha : ar (p * 8 + c) = nI a) (ha8 : a < 8) (hn : hd a = nI t) (hp : post (nl, nt, cl, se, vd, lk, op, ar, ln, en, so, lv, ed, pa, fp, fc, dp, hd, hc)) : wpX_addEdges post (nl, nt, cl, se, vd, lk, op, ar, ln, en, so, lv, ed, pa, fp, fc, dp, hd, hc) (nI t) := by
  unfold wpX_addEdges
  refine lx_cell ht hdp he h1 h2 ?_
  have hz : vp_in (nI (p * 8 + c)) 64 := vp_in_nI (by omega) (by decide)
  have c1 : (nI (p * 8 + c)).toNatClampNeg = p * 8 + c := nI_clamp (by omega)
  have c2 : (nI a).toNatClampNeg = a := nI_clamp (by omega)
  exact ⟨hz, br_t (by rw [c1]; exact ho) ⟨hz, nm_r (e' := nI a) (by rw [c1]; exact ha) ⟨vp_in_nI ha8 (by decide), br_t (by rw [c2]; exact hn) hp⟩⟩⟩
theorem lx_ae2 {post : St2 → Prop} {L t e p c a : Nat} (hL : L ≤ 8) (ht : t < 4) (he : e < 8) (hdp : dp t = nI (e + 1)) (h1 : fp (t * 8 + e) = nI p) (hp8 : p < 8) (h2 : fc (t * 8 + e) = nI c) (hc8 : c < 8) (ho : op (p * 8 + c) = 1) (ha : ar (p * 8 + c) = nI a) (ha8 : a < 8) (hn : ¬ hd a = nI t) (hp : post (nI L, nt, cl, se, vd, lk, op, ar, ln, en, so, lv, ll_ae hd (nI t) a L ed, pa, fp, fc, dp, hd, hc)) : wpX_addEdges post (nI L, nt, cl, se, vd, lk, op, ar, ln, en, so, lv, ed, pa, fp, fc, dp, hd, hc) (nI t) := by
  unfold wpX_addEdges
  refine lx_cell ht hdp he h1 h2 ?_
  have hz : vp_in (nI (p * 8 + c)) 64 := vp_in_nI (by omega) (by decide)
  have c1 : (nI (p * 8 + c)).toNatClampNeg = p * 8 + c := nI_clamp (by omega)
  have c2 : (nI a).toNatClampNeg = a := nI_clamp (by omega)
  exact ⟨hz, br_t (by rw [c1]; exact ho) ⟨hz, nm_r (e' := nI a) (by rw [c1]; exact ha) ⟨vp_in_nI ha8 (by decide), br_f (by rw [c2]; exact hn) ⟨L + 1, lx_ae38 (e0 := ed) hL ha8 hp L (L + 1) 0 (by omega) (by omega)⟩⟩⟩⟩
theorem ll_sd_cg {b : Nat} : ∀ d, (∀ i, i < d → fp' (b + i) = fp (b + i) ∧ fc' (b + i) = fc (b + i)) → ll_sd ln fp' fc' b d = ll_sd ln fp fc b d := by
  intro d
  induction d with
  | zero => intro _; rfl
  | succ d ih =>
    intro h
    have q := ih (fun i hi => h i (by omega))
    have h1 := h d (by omega)
    show (if fc' (b + d) < ln (fp' (b + d)).toNatClampNeg then d + 1 else ll_sd ln fp' fc' b d) = (if fc (b + d) < ln (fp (b + d)).toNatClampNeg then d + 1 else ll_sd ln fp fc b d)
    rw [h1.1, h1.2, q]
theorem ll_TOo {s : Nat} (h : ll_TO ln fp fc dp s) (hf : ∀ i, i < 8 → fp' (s * 8 + i) = fp (s * 8 + i) ∧ fc' (s * 8 + i) = fc (s * 8 + i)) (hdp : dp' s = dp s) : ll_TO ln fp' fc' dp' s := by
  obtain ⟨d, h1, h2, h3, h4⟩ := h
  refine ⟨d, h1, by rw [hdp]; exact h2, fun i hi => ?_, ?_⟩
  · obtain ⟨p, c, n, e⟩ := h3 i hi
    have q := hf i (by omega)
    exact ⟨p, c, n, by rw [q.1]; exact e.1, e.2.1, e.2.2.1, by rw [q.2]; exact e.2.2.2.1, e.2.2.2.2⟩
  · rw [ll_sd_cg d (fun i hi => hf i (by omega))]
    exact h4
theorem ll_TOt {t d : Nat} (h8 : d ≤ 8) (hF : ll_FR ln fp fc (t * 8) d) : ll_TO ln fp fc (upd dp t (nI (ll_sd ln fp fc (t * 8) d))) t := by
  have h := ll_sd_le (ln := ln) (fp := fp) (fc := fc) (b := t * 8) d
  exact ⟨ll_sd ln fp fc (t * 8) d, by omega, pk_us, ll_FRle hF h, ll_sd_id d⟩
theorem ll_TSx {T t d : Nat} (S : ll_TS T ln fp fc dp) (ht : t < T) (hf : ∀ j, (∀ i, i < 8 → j ≠ t * 8 + i) → fp' j = fp j ∧ fc' j = fc j) (h8 : d ≤ 8) (hF : ll_FR ln fp' fc' (t * 8) d) : ll_TS T ln fp' fc' (upd dp t (nI (ll_sd ln fp' fc' (t * 8) d))) := by
  refine ⟨fun s hs => ?_, fun s hs h4 => ?_⟩
  · by_cases e : s = t
    · subst e
      exact ll_TOt h8 hF
    · exact ll_TOo (S.1 s hs) (fun i hi => hf _ (fun i' hi' => by omega)) (pk_un e)
  · rw [pk_un (by omega)]
    exact S.2 s hs h4
theorem ll_FRi {b e p c m : Nat} (hF : ll_FR ln fp fc b (e + 1)) (h1 : fp (b + e) = nI p) (hep : e ≤ p) (hp8 : p < 8) (hl : ln p = nI m) (hcm : c < m) (hm : m ≤ 8) : ll_FR ln fp (upd fc (b + e) (nI (c + 1))) b (e + 1) := by
  intro i hi
  by_cases x : i = e
  · subst x
    exact ⟨p, c + 1, m, h1, hep, hp8, pk_us, hl, by omega, hm⟩
  · rw [pk_un (show b + i ≠ b + e by omega)]
    exact hF i hi
theorem ll_FRc {b d a m : Nat} (hF : ll_FR ln fp fc b d) (hda : d ≤ a) (ha8 : a < 8) (hl : ln a = nI m) (hm : m ≤ 8) : ll_FR ln (upd fp (b + d) (nI a)) (upd fc (b + d) 0) b (d + 1) := by
  intro i hi
  by_cases x : i = d
  · subst x
    exact ⟨a, 0, m, pk_us, hda, ha8, pk_us, hl, by omega, hm⟩
  · rw [pk_un (show b + i ≠ b + d by omega), pk_un (show b + i ≠ b + d by omega)]
    exact hF i (by omega)
theorem ll_cur {t e : Nat} (h : ll_TO ln fp fc dp t) (hdp : dp t = nI (e + 1)) (he : e < 2 ^ 30) : e < 8 ∧ ll_FR ln fp fc (t * 8) (e + 1) ∧ ∃ p c m, fp (t * 8 + e) = nI p ∧ e ≤ p ∧ p < 8 ∧ fc (t * 8 + e) = nI c ∧ ln p = nI m ∧ c < m ∧ m ≤ 8 := by
  obtain ⟨d, h1, h2, h3, h4⟩ := h
  rw [hdp, nI_eq (by omega) (by omega)] at h2
  subst h2
  obtain ⟨p, c, m, e1, e2, e3, e4, e5, e6, e7⟩ := h3 e (by omega)
  refine ⟨by omega, h3, p, c, m, e1, e2, e3, e4, e5, ?_, e7⟩
  by_cases x : c < m
  · exact x
  · have q := ll_sd_f e1 e3 e4 e5 (by omega) e7
    have q2 := ll_sd_le (ln := ln) (fp := fp) (fc := fc) (b := t * 8) e
    omega
theorem ll_fl_s (f : Nat → Int32) (k : Nat) (x : Int32) : upd (ll_fl k f x) k x = ll_fl (k + 1) f x := by
  funext j
  by_cases e : j = k
  · rw [e, pk_us]
    exact (if_pos (by omega)).symm
  · rw [pk_un e]
    show (if j < k then x else f j) = (if j < k + 1 then x else f j)
    by_cases h : j < k
    · rw [if_pos h, if_pos (by omega)]
    · rw [if_neg h, if_neg (by omega)]
theorem ll_fl_0 (f : Nat → Int32) (x : Int32) : ll_fl 0 f x = f := by
  funext j
  exact if_neg (by omega)
theorem ll_fl_t {f : Nat → Int32} {L j : Nat} {x : Int32} (h : j < L) : ll_fl L f x j = x := if_pos h
theorem ll_fl_f {f : Nat → Int32} {L j : Nat} {x : Int32} (h : L ≤ j) : ll_fl L f x j = f j := if_neg (by omega)
theorem lx_free2 {post : St2 → Prop} {L : Nat} (hL : L ≤ 8) (hp : post (nI L, nt, cl, se, vd, lk, op, ar, ln, en, so, lv, ed, pa, fp, fc, dp, ll_fl L hd (-1), ll_fl L hc 0)) : ∀ (r n k : Nat), k + r = L → r < n → wX_freeAllLocks_2 post (nI L) nt cl se vd lk n (nI k) op ar ln en so lv ed pa fp fc dp (ll_fl k hd (-1)) (ll_fl k hc 0) := by
  intro r
  induction r with
  | zero =>
    intro n k hk hn
    obtain ⟨n, rfl⟩ : ∃ m, n = m + 1 := ⟨n - 1, by omega⟩
    have e : k = L := by omega
    subst e
    exact pk_le k k (fun _ => hp) (fun h => absurd h (by omega))
  | succ r ih =>
    intro n k hk hn
    obtain ⟨n, rfl⟩ : ∃ m, n = m + 1 := ⟨n - 1, by omega⟩
    have c1 : (nI k).toNatClampNeg = k := nI_clamp (by omega)
    have q := ih n (k + 1) (by omega) (by omega)
    have hi : vp_in (nI k) 8 := vp_in_nI (by omega) (by decide)
    exact pk_le L k (fun h => absurd h (by omega)) (fun _ => And.intro hi (nm_r (e' := ll_fl (k + 1) hd (-1)) (by rw [c1, ll_fl_s]) ⟨hi, nm_r (e' := ll_fl (k + 1) hc 0) (by rw [c1, ll_fl_s]) (nm_r (nI_1 k) q)⟩))
theorem lx_free2_2 {post : St2 → Prop} {L : Nat} (hL : L ≤ 8) (hp : post (nI L, nt, cl, se, vd, lk, op, ar, ln, en, so, lv, ed, pa, fp, fc, dp, ll_fl L hd (-1), ll_fl L hc 0)) : ∀ (r n k : Nat), k + r = L → r < n → wX_freeAllLocks_2_2 post (nI L) nt cl se vd lk n (nI k) op ar ln en so lv ed pa fp fc dp (ll_fl k hd (-1)) (ll_fl k hc 0) := by
  intro r
  induction r with
  | zero =>
    intro n k hk hn
    obtain ⟨n, rfl⟩ : ∃ m, n = m + 1 := ⟨n - 1, by omega⟩
    have e : k = L := by omega
    subst e
    exact pk_le k k (fun _ => hp) (fun h => absurd h (by omega))
  | succ r ih =>
    intro n k hk hn
    obtain ⟨n, rfl⟩ : ∃ m, n = m + 1 := ⟨n - 1, by omega⟩
    have c1 : (nI k).toNatClampNeg = k := nI_clamp (by omega)
    have q := ih n (k + 1) (by omega) (by omega)
    have hi : vp_in (nI k) 8 := vp_in_nI (by omega) (by decide)
    exact pk_le L k (fun h => absurd h (by omega)) (fun _ => And.intro hi (nm_r (e' := ll_fl (k + 1) hd (-1)) (by rw [c1, ll_fl_s]) ⟨hi, nm_r (e' := ll_fl (k + 1) hc 0) (by rw [c1, ll_fl_s]) (nm_r (nI_1 k) q)⟩))
theorem lx_free {post : St2 → Prop} {L : Nat} (hL : L ≤ 8) (hp : post (nI L, nt, cl, se, vd, lk, op, ar, ln, en, so, lv, ed, pa, fp, fc, dp, ll_fl L hd (-1), ll_fl L hc 0)) : wpX_freeAllLocks post (nI L, nt, cl, se, vd, lk, op, ar, ln, en, so, lv, ed, pa, fp, fc, dp, hd, hc) := by
  have q := lx_free2 hL hp L (L + 1) 0 (by omega) (by omega)
  rw [ll_fl_0, ll_fl_0] at q
  exact ⟨L + 1, q⟩
theorem lx_free_2 {post : St2 → Prop} {L : Nat} (hL : L ≤ 8) (hp : post (nI L, nt, cl, se, vd, lk, op, ar, ln, en, so, lv, ed, pa, fp, fc, dp, ll_fl L hd (-1), ll_fl L hc 0)) : wpX_freeAllLocks_2 post (nI L, nt, cl, se, vd, lk, op, ar, ln, en, so, lv, ed, pa, fp, fc, dp, hd, hc) := by
  have q := lx_free2_2 hL hp L (L + 1) 0 (by omega) (by omega)
  rw [ll_fl_0, ll_fl_0] at q
  exact ⟨L + 1, q⟩
theorem ll_TOs {t p m : Nat} (hp8 : p < 8) (hl : ln p = nI m) (hm : m ≤ 8) : ll_TO ln (upd fp (t * 8) (nI p)) (upd fc (t * 8) 0) (upd dp t (nI (if 0 < m then 1 else 0))) t := by
  have f1 : upd fp (t * 8) (nI p) (t * 8 + 0) = nI p := pk_us
  have f2 : upd fc (t * 8) 0 (t * 8 + 0) = nI 0 := pk_us
  by_cases h : 0 < m
  · rw [if_pos h]
    refine ⟨1, by omega, pk_us, fun i hi => ?_, ll_sd_t f1 hp8 f2 hl h hm⟩
    have e : i = 0 := by omega
    subst e
    exact ⟨p, 0, m, f1, by omega, hp8, f2, hl, by omega, hm⟩
  · rw [if_neg h]
    exact ⟨0, by omega, pk_us, fun i hi => absurd hi (by omega), rfl⟩
theorem ll_TSs {T t p m : Nat} (S : ll_TS T ln fp fc dp) (ht : t < T) (hp8 : p < 8) (hl : ln p = nI m) (hm : m ≤ 8) : ll_TS T ln (upd fp (t * 8) (nI p)) (upd fc (t * 8) 0) (upd dp t (nI (if 0 < m then 1 else 0))) := by
  refine ⟨fun s hs => ?_, fun s hs h4 => ?_⟩
  · by_cases e : s = t
    · subst e
      exact ll_TOs hp8 hl hm
    · exact ll_TOo (S.1 s hs) (fun i hi => ⟨pk_un (by omega), pk_un (by omega)⟩) (pk_un e)
  · rw [pk_un (by omega)]
    exact S.2 s hs h4
theorem ll_EBu {L k a : Nat} (h : ll_EB L ed) (hL : L ≤ 8) (hk : k < L) (ha : a < L) : ll_EB L (upd ed (k * 8 + a) 1) := by
  refine ⟨ll_Bu h.1 _ (Or.inr rfl), fun x y hx hy hne => ?_⟩
  by_cases e : x * 8 + y = k * 8 + a
  · exact ⟨by omega, by omega⟩
  · rw [pk_un e] at hne
    exact h.2 x y hx hy hne
theorem ll_EBa {L a : Nat} {t : Int32} (h : ll_EB L ed) (hL : L ≤ 8) (ha : a < L) : ∀ k, k ≤ L → ll_EB L (ll_ae hd t a k ed) := by
  intro k
  induction k with
  | zero => intro _; exact h
  | succ k ih =>
    intro hk
    by_cases z : hd k = t
    · have e : ll_ae hd t a (k + 1) ed = upd (ll_ae hd t a k ed) (k * 8 + a) 1 := if_pos z
      rw [e]
      exact ll_EBu (ih (by omega)) hL (by omega) ha
    · have e : ll_ae hd t a (k + 1) ed = ll_ae hd t a k ed := if_neg z
      rw [e]
      exact ih (by omega)
end
end
section
/-! X's paths, lowest cycle lock and levels -/
def ll_E (ed : Nat → Int32) (a b : Nat) : Prop := a < 8 ∧ b < 8 ∧ ¬ ed (a * 8 + b) = 0
def ll_cp (k : Nat) (f g : Nat → Int32) : Nat → Int32 := fun j => if j < k then f j else g j
def ll_J (L : Nat) (p0 : Nat → Int32) (f k j : Nat) (pa : Nat → Int32) : Prop :=
  ∀ a b, a < L → b < L → (¬ pa (a * 8 + b) = 0 ↔ (¬ p0 (a * 8 + b) = 0 ∨ (a = f ∧ b < j ∧ ¬ p0 (k * 8 + b) = 0)))
def ll_V (L : Nat) (E : Nat → Nat → Prop) (k f : Nat) (pa : Nat → Int32) : Prop :=
  (∀ a b, a < L → b < L → a < f → (¬ pa (a * 8 + b) = 0 ↔ gr_P E (k + 1) a b)) ∧ (∀ a b, a < L → b < L → f ≤ a → (¬ pa (a * 8 + b) = 0 ↔ gr_P E k a b))
/-- X's lowest cycle lock as its scan finds it -/
def ll_LO (L : Nat) (pa : Nat → Int32) (r : Int32) : Prop :=
  (r = -1 ∧ ∀ l, l < L → pa (l * 8 + l) = 0) ∨ (∃ l, l < L ∧ r = nI l ∧ ¬ pa (l * 8 + l) = 0 ∧ ∀ j, j < l → pa (j * 8 + j) = 0)
theorem gr_LIsub {E : Nat → Nat → Prop} {L r : Nat} {D D' : Nat → Nat → Prop} {lev : Nat → Nat} (h : gr_LI E L r D lev) (hD : ∀ x y, E x y → D' x y → D x y) : gr_LI E L r D' lev :=
  ⟨h.1, h.2.1, h.2.2.1, fun x y e hr d => h.2.2.2 x y e hr (hD x y e d)⟩
theorem ll_Edom {L : Nat} {ed : Nat → Int32} (h : ll_EB L ed) : ∀ a b, ll_E ed a b → a < L ∧ b < L := fun a b e => h.2 a b e.1 e.2.1 e.2.2
theorem ll_1n0 : ¬ (1 : Int32) = 0 := by decide
section
variable {nl nt cl se vd lk : Int32} {op ar ln en so lv ed pa fp fc dp hd hc fp' fc' dp' hd' hc' : Nat → Int32}
theorem ll_cp_s (f g : Nat → Int32) (k : Nat) : upd (ll_cp k f g) k (f k) = ll_cp (k + 1) f g := by
  funext j
  by_cases e : j = k
  · rw [e, pk_us]
    exact (if_pos (by omega)).symm
  · rw [pk_un e]
    show (if j < k then f j else g j) = (if j < k + 1 then f j else g j)
    by_cases h : j < k
    · rw [if_pos h, if_pos (by omega)]
    · rw [if_neg h, if_neg (by omega)]
theorem ll_cp_0 (f g : Nat → Int32) : ll_cp 0 f g = g := by
  funext j
  exact if_neg (by omega)
theorem ll_cp_t {f g : Nat → Int32} {k j : Nat} (h : j < k) : ll_cp k f g j = f j := if_pos h
theorem lx_cp {post : St2 → Prop} (B : ll_B ed) (hp : ∃ n, wX_findPaths_28 post n 0 nl nt cl se vd lk op ar ln en so lv ed (ll_cp 64 ed pa) fp fc dp hd hc) : ∀ (r n k : Nat), k + r = 64 → r < n → wX_findPaths_2 post nl nt cl se vd lk n (nI k) op ar ln en so lv ed (ll_cp k ed pa) fp fc dp hd hc := by
  intro r
  induction r with
  | zero =>
    intro n k hk hn
    obtain ⟨n, rfl⟩ : ∃ m, n = m + 1 := ⟨n - 1, by omega⟩
    have e : k = 64 := by omega
    subst e
    exact pk_le 64 64 (fun _ => hp) (fun h => absurd h (by omega))
  | succ r ih =>
    intro n k hk hn
    obtain ⟨n, rfl⟩ : ∃ m, n = m + 1 := ⟨n - 1, by omega⟩
    have c1 : (nI k).toNatClampNeg = k := nI_clamp (by omega)
    have q := ih n (k + 1) (by omega) (by omega)
    have hi : vp_in (nI k) 64 := vp_in_nI (by omega) (by decide)
    exact pk_le 64 k (fun h => absurd h (by omega)) (fun _ => And.intro hi ⟨hi, nm_r (e' := ll_cp (k + 1) ed pa) (by rw [c1, ll_bn (B k), ll_cp_s]) (nm_r (nI_1 k) q)⟩)
theorem lx_join {post : St2 → Prop} {L f k : Nat} {p0 : Nat → Int32} (hL : L ≤ 8) (hf : f < L) (hk : k < L) (hp : ∀ pa', ll_J L p0 f k L pa' → post (nI L, nt, cl, se, vd, lk, op, ar, ln, en, so, lv, ed, pa', fp, fc, dp, hd, hc)) : ∀ (r n j : Nat) (pa : Nat → Int32), j + r = L → r < n → ll_J L p0 f k j pa → wX_joinPaths_2 post (nI f) (nI k) (nI L) nt cl se vd lk n (nI j) op ar ln en so lv ed pa fp fc dp hd hc := by
  intro r
  induction r with
  | zero =>
    intro n j pa hj hn I
    obtain ⟨n, rfl⟩ : ∃ m, n = m + 1 := ⟨n - 1, by omega⟩
    have e : j = L := by omega
    subst e
    exact pk_le j j (fun _ => hp pa I) (fun h => absurd h (by omega))
  | succ r ih =>
    intro n j pa hj hn I
    obtain ⟨n, rfl⟩ : ∃ m, n = m + 1 := ⟨n - 1, by omega⟩
    have c1 : (nI (k * 8 + j)).toNatClampNeg = k * 8 + j := nI_clamp (by omega)
    have c2 : (nI (f * 8 + j)).toNatClampNeg = f * 8 + j := nI_clamp (by omega)
    have hi : vp_in (nI (k * 8 + j)) 64 := vp_in_nI (by omega) (by decide)
    have hi2 : vp_in (nI (f * 8 + j)) 64 := vp_in_nI (by omega) (by decide)
    have hkj := I k j hk (by omega)
    refine pk_le L j (fun h => absurd h (by omega)) (fun _ => ?_)
    rw [ll_cel k j, ll_cel f j, c1, c2]
    refine And.intro hi ?_
    by_cases z : pa (k * 8 + j) = 0
    · refine br_t z (nm_r (nI_1 j) (ih n (j + 1) pa (by omega) (by omega) (fun a b ha hb => ?_)))
      rw [I a b ha hb]
      have hz : p0 (k * 8 + j) = 0 := by
        by_cases x : p0 (k * 8 + j) = 0
        · exact x
        · exact absurd z (hkj.mpr (Or.inl x))
      constructor
      · rintro (q | ⟨q1, q2, q3⟩)
        · exact Or.inl q
        · exact Or.inr ⟨q1, by omega, q3⟩
      · rintro (q | ⟨q1, q2, q3⟩)
        · exact Or.inl q
        · by_cases x : b = j
          · rw [x] at q3
            exact absurd hz q3
          · exact Or.inr ⟨q1, by omega, q3⟩
    · have hz : ¬ p0 (k * 8 + j) = 0 := by
        rcases hkj.mp z with q | ⟨_, q, _⟩
        · exact q
        · exact absurd q (by omega)
      refine br_f z ⟨hi2, nm_r (e' := upd pa (f * 8 + j) 1) rfl (nm_r (nI_1 j) (ih n (j + 1) (upd pa (f * 8 + j) 1) (by omega) (by omega) (fun a b ha hb => ?_)))⟩
      by_cases x : a * 8 + b = f * 8 + j
      · have xa : a = f := by omega
        have xb : b = j := by omega
        rw [x, pk_us, xa, xb]
        exact ⟨fun _ => Or.inr ⟨rfl, by omega, hz⟩, fun _ => ll_1n0⟩
      · rw [pk_un x, I a b ha hb]
        constructor
        · rintro (q | ⟨q1, q2, q3⟩)
          · exact Or.inl q
          · exact Or.inr ⟨q1, by omega, q3⟩
        · rintro (q | ⟨q1, q2, q3⟩)
          · exact Or.inl q
          · exact Or.inr ⟨q1, by omega, q3⟩
theorem ll_Vs {L k f : Nat} {E : Nat → Nat → Prop} {p' : Nat → Int32} (hf : f < L) (hk : k < L) (I : ll_V L E k f pa) (hz : ¬ pa (f * 8 + k) = 0) (hJ : ll_J L pa f k L p') : ll_V L E k (f + 1) p' := by
  have hfk : gr_P E k f k := (I.2 f k hf hk (Nat.le_refl _)).mp hz
  have hrow : ∀ b, b < L → (¬ pa (k * 8 + b) = 0 ↔ gr_P E k k b) := by
    intro b hb
    by_cases x : k < f
    · rw [I.1 k b hk hb x]
      exact gr_row k b
    · exact I.2 k b hk hb (by omega)
  refine ⟨fun a b ha hb hlt => ?_, fun a b ha hb hle => ?_⟩
  · rw [hJ a b ha hb]
    by_cases x : a = f
    · subst x
      rw [I.2 a b ha hb (Nat.le_refl _), hrow b hb]
      constructor
      · rintro (q | ⟨_, _, q⟩)
        · exact Or.inl q
        · exact Or.inr ⟨hfk, q⟩
      · rintro (q | q)
        · exact Or.inl q
        · exact Or.inr ⟨rfl, hb, q.2⟩
    · rw [I.1 a b ha hb (by omega)]
      exact ⟨fun q => q.elim id (fun q => absurd q.1 x), Or.inl⟩
  · rw [hJ a b ha hb, I.2 a b ha hb (by omega)]
    exact ⟨fun q => q.elim id (fun q => absurd q.1 (by omega)), Or.inl⟩
theorem ll_Vn {L k f : Nat} {E : Nat → Nat → Prop} (hf : f < L) (hk : k < L) (I : ll_V L E k f pa) (hz : pa (f * 8 + k) = 0) : ll_V L E k (f + 1) pa := by
  have hfk : ¬ gr_P E k f k := fun q => (I.2 f k hf hk (Nat.le_refl _)).mpr q hz
  refine ⟨fun a b ha hb hlt => ?_, fun a b ha hb hle => I.2 a b ha hb (by omega)⟩
  by_cases x : a = f
  · subst x
    rw [I.2 a b ha hb (Nat.le_refl _)]
    exact ⟨Or.inl, fun q => q.elim id (fun q => absurd q.1 hfk)⟩
  · exact I.1 a b ha hb (by omega)
theorem lx_fp38 {post : St2 → Prop} {L k : Nat} {E : Nat → Nat → Prop} {J : Int32 → Int32 → Int32 → Int32 → Int32 → Int32 → Int32 → (Nat → Int32) → (Nat → Int32) → (Nat → Int32) → (Nat → Int32) → (Nat → Int32) → (Nat → Int32) → (Nat → Int32) → (Nat → Int32) → (Nat → Int32) → (Nat → Int32) → (Nat → Int32) → (Nat → Int32) → (Nat → Int32) → Prop} (hL : L ≤ 8) (hk : k < L) (hJ : ∀ pa', ll_V L E k L pa' → J (nI (k + 1)) (nI L) nt cl se vd lk op ar ln en so lv ed pa' fp fc dp hd hc) : ∀ (r n f : Nat) (pa : Nat → Int32), f + r = L → r < n → ll_V L E k f pa → wX_findPaths_38 post J (nI k) n (nI f) (nI L) nt cl se vd lk op ar ln en so lv ed pa fp fc dp hd hc := by
  intro r
  induction r with
  | zero =>
    intro n f pa hf hn I
    obtain ⟨n, rfl⟩ : ∃ m, n = m + 1 := ⟨n - 1, by omega⟩
    have e : f = L := by omega
    subst e
    exact pk_le f f (fun _ => nm_r (nI_1 k) (hJ pa I)) (fun h => absurd h (by omega))
  | succ r ih =>
    intro n f pa hf hn I
    obtain ⟨n, rfl⟩ : ∃ m, n = m + 1 := ⟨n - 1, by omega⟩
    have c1 : (nI (f * 8 + k)).toNatClampNeg = f * 8 + k := nI_clamp (by omega)
    have hi : vp_in (nI (f * 8 + k)) 64 := vp_in_nI (by omega) (by decide)
    refine pk_le L f (fun h => absurd h (by omega)) (fun _ => ?_)
    rw [ll_cel f k, c1]
    refine And.intro hi ?_
    by_cases z : pa (f * 8 + k) = 0
    · exact br_t z (nm_r (nI_1 f) (ih n (f + 1) pa (by omega) (by omega) (ll_Vn (by omega) hk I z)))
    · refine br_f z ?_
      refine ⟨L + 1, lx_join (p0 := pa) hL (by omega) hk (fun p' hp' => ?_) L (L + 1) 0 pa (by omega) (by omega) (fun a b _ _ => ⟨Or.inl, fun q => q.elim id (fun q => absurd q.2.1 (by omega))⟩)⟩
      exact nm_r (nI_1 f) (ih n (f + 1) p' (by omega) (by omega) (ll_Vs (by omega) hk I z hp'))
theorem lx_fp28 {post : St2 → Prop} {L : Nat} {E : Nat → Nat → Prop} (hL : L ≤ 8) (hp : ∀ pa', (∀ a b, a < L → b < L → (¬ pa' (a * 8 + b) = 0 ↔ gr_P E L a b)) → post (nI L, nt, cl, se, vd, lk, op, ar, ln, en, so, lv, ed, pa', fp, fc, dp, hd, hc)) : ∀ (r n k : Nat) (pa : Nat → Int32), k + r = L → r < n → (∀ a b, a < L → b < L → (¬ pa (a * 8 + b) = 0 ↔ gr_P E k a b)) → wX_findPaths_28 post n (nI k) (nI L) nt cl se vd lk op ar ln en so lv ed pa fp fc dp hd hc := by
  intro r
  induction r with
  | zero =>
    intro n k pa hk hn I
    obtain ⟨n, rfl⟩ : ∃ m, n = m + 1 := ⟨n - 1, by omega⟩
    have e : k = L := by omega
    subst e
    exact pk_le k k (fun _ => hp pa I) (fun h => absurd h (by omega))
  | succ r ih =>
    intro n k pa hk hn I
    obtain ⟨n, rfl⟩ : ∃ m, n = m + 1 := ⟨n - 1, by omega⟩
    refine pk_le L k (fun h => absurd h (by omega)) (fun _ => ?_)
    exact ⟨L + 1, lx_fp38 (E := E) hL (by omega) (fun p' I' => ih n (k + 1) p' (by omega) (by omega) (fun a b ha hb => I'.1 a b ha hb ha)) L (L + 1) 0 pa (by omega) (by omega) ⟨fun a b _ _ h => absurd h (by omega), fun a b ha hb _ => I a b ha hb⟩⟩
theorem lx_paths {post : St2 → Prop} {L : Nat} (hL : L ≤ 8) (B : ll_EB L ed) (hp : ∀ pa', (∀ a b, a < L → b < L → (¬ pa' (a * 8 + b) = 0 ↔ gr_P (ll_E ed) L a b)) → post (nI L, nt, cl, se, vd, lk, op, ar, ln, en, so, lv, ed, pa', fp, fc, dp, hd, hc)) : wpX_findPaths post (nI L, nt, cl, se, vd, lk, op, ar, ln, en, so, lv, ed, pa, fp, fc, dp, hd, hc) := by
  have q := lx_cp (post := post) (nl := nI L) (nt := nt) (cl := cl) (se := se) (vd := vd) (lk := lk) (op := op) (ar := ar) (ln := ln) (en := en) (so := so) (lv := lv) (ed := ed) (pa := pa) (fp := fp) (fc := fc) (dp := dp) (hd := hd) (hc := hc) B.1 ⟨L + 1, lx_fp28 (E := ll_E ed) hL hp L (L + 1) 0 (ll_cp 64 ed pa) (by omega) (by omega) (fun a b ha hb => by
    rw [ll_cp_t (show a * 8 + b < 64 by omega)]
    exact ⟨fun q => ⟨by omega, by omega, q⟩, fun q => q.2.2⟩)⟩ 64 65 0 (by omega) (by omega)
  rw [ll_cp_0] at q
  exact ⟨65, q⟩
theorem lx_low2 {L : Nat} (hL : L ≤ 8) : ∀ (r k : Nat), k + r = L → (∀ j, j < k → pa (j * 8 + j) = 0) → ∃ x, ll_LO L pa x ∧ ∀ (post : Int32 → Prop) (n : Nat), r < n → post x → wX_findLowestCycleLock_2 post (nI L) nt cl se vd lk op ar ln en so lv ed pa fp fc dp hd hc n (nI k) := by
  intro r
  induction r with
  | zero =>
    intro k hk h
    have e : k = L := by omega
    subst e
    refine ⟨-1, Or.inl ⟨rfl, h⟩, fun post n hn hp => ?_⟩
    obtain ⟨n, rfl⟩ : ∃ m, n = m + 1 := ⟨n - 1, by omega⟩
    exact pk_le k k (fun _ => hp) (fun h => absurd h (by omega))
  | succ r ih =>
    intro k hk h
    have c1 : (nI (k * 8 + k)).toNatClampNeg = k * 8 + k := nI_clamp (by omega)
    have hi : vp_in (nI (k * 8 + k)) 64 := vp_in_nI (by omega) (by decide)
    by_cases z : pa (k * 8 + k) = 0
    · obtain ⟨x, h1, h2⟩ := ih (k + 1) (by omega) (lt_s h z)
      refine ⟨x, h1, fun post n hn hp => ?_⟩
      obtain ⟨n, rfl⟩ : ∃ m, n = m + 1 := ⟨n - 1, by omega⟩
      refine pk_le L k (fun h => absurd h (by omega)) (fun _ => ?_)
      rw [ll_cel k k, c1]
      exact And.intro hi (br_t z (nm_r (nI_1 k) (h2 post n (by omega) hp)))
    · refine ⟨nI k, Or.inr ⟨k, by omega, rfl, z, h⟩, fun post n hn hp => ?_⟩
      obtain ⟨n, rfl⟩ : ∃ m, n = m + 1 := ⟨n - 1, by omega⟩
      refine pk_le L k (fun h => absurd h (by omega)) (fun _ => ?_)
      rw [ll_cel k k, c1]
      exact And.intro hi (br_f z hp)
theorem lx_low {L : Nat} (hL : L ≤ 8) : ∃ x, ll_LO L pa x ∧ ∀ (post : Int32 → Prop), post x → wpX_findLowestCycleLock post (nI L, nt, cl, se, vd, lk, op, ar, ln, en, so, lv, ed, pa, fp, fc, dp, hd, hc) := by
  obtain ⟨x, h1, h2⟩ := lx_low2 (nt := nt) (cl := cl) (se := se) (vd := vd) (lk := lk) (op := op) (ar := ar) (ln := ln) (en := en) (so := so) (lv := lv) (ed := ed) (pa := pa) (fp := fp) (fc := fc) (dp := dp) (hd := hd) (hc := hc) hL L 0 (by omega) (fun j hj => absurd hj (by omega))
  exact ⟨x, h1, fun post hp => ⟨L + 1, h2 post (L + 1) (by omega) hp⟩⟩
theorem lx_raise2 {post : St2 → Prop} {L q a l0 : Nat} (hL : L ≤ 8) (ha : a < L) (hE : ∀ x y, ll_E ed x y → x < L ∧ y < L) (hac : ∀ x, ¬ gr_P (ll_E ed) L x x) (hp : ∀ lv' lev', (∀ j, j < 8 → lv' j = nI (lev' j)) → gr_LI (ll_E ed) L q (fun x _ => x < a + 1) lev' → post (nI L, nt, cl, se, vd, lk, op, ar, ln, en, so, lv', ed, pa, fp, fc, dp, hd, hc)) : ∀ (r n b : Nat) (lv : Nat → Int32) (lev : Nat → Nat), b + r = L → r < n → (∀ j, j < 8 → lv j = nI (lev j)) → lev a = l0 → gr_LI (ll_E ed) L q (fun x y => x < a ∨ (x = a ∧ y < b)) lev → wX_raiseSuccessors_11 post (nI a) (nI (l0 + 1)) (nI L) nt cl se vd lk n (nI b) op ar ln en so lv ed pa fp fc dp hd hc := by
  intro r
  induction r with
  | zero =>
    intro n b lv lev hb hn hl h0 I
    obtain ⟨n, rfl⟩ : ∃ m, n = m + 1 := ⟨n - 1, by omega⟩
    have e : b = L := by omega
    subst e
    refine pk_le b b (fun _ => hp lv lev hl (gr_LIsub I (fun x y e d => ?_))) (fun h => absurd h (by omega))
    have := hE x y e
    show x < a ∨ (x = a ∧ y < b)
    omega
  | succ r ih =>
    intro n b lv lev hb hn hl h0 I
    obtain ⟨n, rfl⟩ : ∃ m, n = m + 1 := ⟨n - 1, by omega⟩
    have c1 : (nI (a * 8 + b)).toNatClampNeg = a * 8 + b := nI_clamp (by omega)
    have c2 : (nI b).toNatClampNeg = b := nI_clamp (by omega)
    have hi : vp_in (nI (a * 8 + b)) 64 := vp_in_nI (by omega) (by decide)
    have hi2 : vp_in (nI b) 8 := vp_in_nI (by omega) (by decide)
    have hD : ∀ x y, (x < a ∨ (x = a ∧ y < b + 1)) → (x < a ∨ (x = a ∧ y < b)) ∨ (x = a ∧ y = b) := by
      intro x y h
      omega
    have lb : lev b ≤ 8 := Nat.le_trans (I.1 b) (Nat.le_trans (gr_cle _ L) hL)
    have la : lev a ≤ 8 := Nat.le_trans (I.1 a) (Nat.le_trans (gr_cle _ L) hL)
    refine pk_le L b (fun h => absurd h (by omega)) (fun _ => ?_)
    rw [ll_cel a b, c1, c2, hl b (by omega)]
    refine And.intro hi ?_
    by_cases z : ed (a * 8 + b) = 0
    · exact br_t z (nm_r (nI_1 b) (ih n (b + 1) lv lev (by omega) (by omega) hl h0 (gr_LIno a b I (fun e => absurd z e.2.2) hD)))
    · have e : ll_E ed a b := ⟨by omega, by omega, z⟩
      refine br_f z ⟨hi2, pk_le (l0 + 1) (lev b) (fun h => ?_) (fun h => ?_)⟩
      · exact nm_r (nI_1 b) (ih n (b + 1) lv lev (by omega) (by omega) hl h0 (gr_LIno a b I (fun _ => by omega) hD))
      · have hne : a ≠ b := by
          intro x
          rw [← x] at e
          have := gr_Alt hE hac e
          omega
        refine ⟨hi2, nm_e (nm_r (nI_1 b) (ih n (b + 1) (upd lv b (nI (l0 + 1))) (fun j => if j = b then l0 + 1 else lev j) (by omega) (by omega) (fun j hj => ?_) ?_ ?_))⟩
        · by_cases x : j = b
          · rw [x, pk_us, if_pos rfl]
          · rw [pk_un x, if_neg x]
            exact hl j hj
        · show (if a = b then l0 + 1 else lev a) = l0
          rw [if_neg hne]
          exact h0
        · exact gr_LIup hE hac a b I e (by omega) hD _ (by rw [if_pos rfl, h0]) (fun j hj => if_neg hj)
theorem lx_raise {post : St2 → Prop} {L q a : Nat} {lev : Nat → Nat} (hL : L ≤ 8) (ha : a < L) (hE : ∀ x y, ll_E ed x y → x < L ∧ y < L) (hac : ∀ x, ¬ gr_P (ll_E ed) L x x) (hl : ∀ j, j < 8 → lv j = nI (lev j)) (I : gr_LI (ll_E ed) L q (fun x _ => x < a) lev) (hp : ∀ lv' lev', (∀ j, j < 8 → lv' j = nI (lev' j)) → gr_LI (ll_E ed) L q (fun x _ => x < a + 1) lev' → post (nI L, nt, cl, se, vd, lk, op, ar, ln, en, so, lv', ed, pa, fp, fc, dp, hd, hc)) : wpX_raiseSuccessors post (nI L, nt, cl, se, vd, lk, op, ar, ln, en, so, lv, ed, pa, fp, fc, dp, hd, hc) (nI a) := by
  have c1 : (nI a).toNatClampNeg = a := nI_clamp (by omega)
  refine And.intro (vp_in_nI (by omega) (by decide)) (nm_r (e' := nI (lev a + 1)) (by rw [c1, hl a (by omega), nI_1]) ?_)
  exact ⟨L + 1, lx_raise2 hL ha hE hac hp L (L + 1) 0 lv lev (by omega) (by omega) hl rfl (gr_LIsub I (fun x y _ d => by
    rcases d with d | d
    · exact d
    · exact absurd d.2 (by omega)))⟩
theorem lx_inf12 {post : St2 → Prop} {L q i : Nat} {J : Int32 → Int32 → Int32 → Int32 → Int32 → Int32 → Int32 → (Nat → Int32) → (Nat → Int32) → (Nat → Int32) → (Nat → Int32) → (Nat → Int32) → (Nat → Int32) → (Nat → Int32) → (Nat → Int32) → (Nat → Int32) → (Nat → Int32) → (Nat → Int32) → (Nat → Int32) → (Nat → Int32) → Prop} (hL : L ≤ 8) (hE : ∀ x y, ll_E ed x y → x < L ∧ y < L) (hac : ∀ x, ¬ gr_P (ll_E ed) L x x) (hJ : ∀ lv' lev', (∀ j, j < 8 → lv' j = nI (lev' j)) → gr_LI (ll_E ed) L (q + 1) (fun _ _ => False) lev' → J (nI (i + 1)) (nI L) nt cl se vd lk op ar ln en so lv' ed pa fp fc dp hd hc) : ∀ (r n a : Nat) (lv : Nat → Int32) (lev : Nat → Nat), a + r = L → r < n → (∀ j, j < 8 → lv j = nI (lev j)) → gr_LI (ll_E ed) L q (fun x _ => x < a) lev → wX_inferLevels_12 post J (nI i) n (nI a) (nI L) nt cl se vd lk op ar ln en so lv ed pa fp fc dp hd hc := by
  intro r
  induction r with
  | zero =>
    intro n a lv lev ha hn hl I
    obtain ⟨n, rfl⟩ : ∃ m, n = m + 1 := ⟨n - 1, by omega⟩
    have e : a = L := by omega
    subst e
    exact pk_le a a (fun _ => nm_r (nI_1 i) (hJ lv lev hl (gr_LInext I (fun x y e => (hE x y e).1)))) (fun h => absurd h (by omega))
  | succ r ih =>
    intro n a lv lev ha hn hl I
    obtain ⟨n, rfl⟩ : ∃ m, n = m + 1 := ⟨n - 1, by omega⟩
    refine pk_le L a (fun h => absurd h (by omega)) (fun _ => ?_)
    exact lx_raise hL (by omega) hE hac hl I (fun lv' lev' hl' I' => nm_r (nI_1 a) (ih n (a + 1) lv' lev' (by omega) (by omega) hl' I'))
theorem lx_inf2 {post : St2 → Prop} {L : Nat} (hL : L ≤ 8) (hE : ∀ x y, ll_E ed x y → x < L ∧ y < L) (hac : ∀ x, ¬ gr_P (ll_E ed) L x x) (hp : ∀ lv' lev', (∀ j, j < 8 → lv' j = nI (lev' j)) → gr_LI (ll_E ed) L (L - 1) (fun _ _ => False) lev' → post (nI L, nt, cl, se, vd, lk, op, ar, ln, en, so, lv', ed, pa, fp, fc, dp, hd, hc)) : ∀ (r n q : Nat) (lv : Nat → Int32) (lev : Nat → Nat), q + 1 + r = L → r < n → (∀ j, j < 8 → lv j = nI (lev j)) → gr_LI (ll_E ed) L q (fun _ _ => False) lev → wX_inferLevels_2 post n (nI (q + 1)) (nI L) nt cl se vd lk op ar ln en so lv ed pa fp fc dp hd hc := by
  intro r
  induction r with
  | zero =>
    intro n q lv lev hq hn hl I
    obtain ⟨n, rfl⟩ : ∃ m, n = m + 1 := ⟨n - 1, by omega⟩
    have e : q + 1 = L := by omega
    subst e
    exact pk_le (q + 1) (q + 1) (fun _ => hp lv lev hl I) (fun h => absurd h (by omega))
  | succ r ih =>
    intro n q lv lev hq hn hl I
    obtain ⟨n, rfl⟩ : ∃ m, n = m + 1 := ⟨n - 1, by omega⟩
    refine pk_le L (q + 1) (fun h => absurd h (by omega)) (fun _ => ?_)
    exact ⟨L + 1, lx_inf12 (q := q) hL hE hac (fun lv' lev' hl' I' => ih n (q + 1) lv' lev' (by omega) (by omega) hl' I') L (L + 1) 0 lv lev (by omega) (by omega) hl (gr_LIsub I (fun _ _ _ d => absurd d (by omega)))⟩
theorem lx_infer {post : St2 → Prop} {L : Nat} (h2 : 2 ≤ L) (hL : L ≤ 8) (hE : ∀ x y, ll_E ed x y → x < L ∧ y < L) (hac : ∀ x, ¬ gr_P (ll_E ed) L x x) (hl : ∀ j, j < 8 → lv j = 0) (hp : ∀ lv' lev', (∀ j, j < 8 → lv' j = nI (lev' j)) → gr_LI (ll_E ed) L (L - 1) (fun _ _ => False) lev' → post (nI L, nt, cl, se, vd, lk, op, ar, ln, en, so, lv', ed, pa, fp, fc, dp, hd, hc)) : wpX_inferLevels post (nI L, nt, cl, se, vd, lk, op, ar, ln, en, so, lv, ed, pa, fp, fc, dp, hd, hc) :=
  ⟨L + 1, lx_inf2 hL hE hac hp (L - 1) (L + 1) 0 lv (fun _ => 0) (by omega) (by omega) hl (gr_LI0 hE hac (fun _ => rfl))⟩
theorem lx_long0 {post : Int32 → Prop} {T : Nat} (hT : T ≤ 4) (hs : ∀ s, s < T → ∃ m, m ≤ 512 ∧ so s = nI m) (hp : post 0) : ∀ (r n k : Nat), k + r = T → r < n → wX_someSoloRunIsLong_2 post nl (nI T) cl se vd lk op ar ln en so lv ed pa fp fc dp hd hc n (nI k) := by
  intro r
  induction r with
  | zero =>
    intro n k hk hn
    obtain ⟨n, rfl⟩ : ∃ m, n = m + 1 := ⟨n - 1, by omega⟩
    have e : k = T := by omega
    subst e
    exact pk_le k k (fun _ => hp) (fun h => absurd h (by omega))
  | succ r ih =>
    intro n k hk hn
    obtain ⟨n, rfl⟩ : ∃ m, n = m + 1 := ⟨n - 1, by omega⟩
    obtain ⟨m, hm, e⟩ := hs k (by omega)
    have c1 : (nI k).toNatClampNeg = k := nI_clamp (by omega)
    exact pk_le T k (fun h => absurd h (by omega)) (fun _ => And.intro (vp_in_nI (by omega) (by decide)) (pk_le m 512 (fun _ => nm_r (nI_1 k) (ih n (k + 1) (by omega) (by omega))) (fun h => absurd h (by omega)) (by rw [c1]; exact e)))
theorem lx_long1 {post : Int32 → Prop} {T : Nat} (hT : T ≤ 4) (hs : ∀ s, s < T → ∃ m, m ≤ 513 ∧ so s = nI m) (hp : post 1) : ∀ (r n k : Nat), k + r = T → r < n → (∃ s, k ≤ s ∧ s < T ∧ so s = nI 513) → wX_someSoloRunIsLong_2 post nl (nI T) cl se vd lk op ar ln en so lv ed pa fp fc dp hd hc n (nI k) := by
  intro r
  induction r with
  | zero =>
    intro n k hk hn h
    obtain ⟨s, h1, h2, _⟩ := h
    omega
  | succ r ih =>
    intro n k hk hn h
    obtain ⟨n, rfl⟩ : ∃ m, n = m + 1 := ⟨n - 1, by omega⟩
    obtain ⟨m, hm, e⟩ := hs k (by omega)
    have c1 : (nI k).toNatClampNeg = k := nI_clamp (by omega)
    refine pk_le T k (fun h => absurd h (by omega)) (fun _ => And.intro (vp_in_nI (by omega) (by decide)) (pk_le m 512 (fun hm' => nm_r (nI_1 k) (ih n (k + 1) (by omega) (by omega) ?_)) (fun _ => hp) (by rw [c1]; exact e)))
    obtain ⟨s, h1, h2, h3⟩ := h
    have x : s ≠ k := by
      intro x
      rw [x, e, nI_eq (by omega) (by omega)] at h3
      omega
    exact ⟨s, by omega, h2, h3⟩
theorem lx_clr {post : St2 → Prop} (hp : post (nl, nt, cl, se, vd, lk, op, ar, ln, en, so, lv, ll_fl 64 ed 0, pa, fp, fc, dp, hd, hc)) : ∀ (r n k : Nat), k + r = 64 → r < n → wX_clearEdges_2 post nl nt cl se vd lk n (nI k) op ar ln en so lv (ll_fl k ed 0) pa fp fc dp hd hc := by
  intro r
  induction r with
  | zero =>
    intro n k hk hn
    obtain ⟨n, rfl⟩ : ∃ m, n = m + 1 := ⟨n - 1, by omega⟩
    have e : k = 64 := by omega
    subst e
    exact pk_le 64 64 (fun _ => hp) (fun h => absurd h (by omega))
  | succ r ih =>
    intro n k hk hn
    obtain ⟨n, rfl⟩ : ∃ m, n = m + 1 := ⟨n - 1, by omega⟩
    have c1 : (nI k).toNatClampNeg = k := nI_clamp (by omega)
    have q := ih n (k + 1) (by omega) (by omega)
    have hi : vp_in (nI k) 64 := vp_in_nI (by omega) (by decide)
    exact pk_le 64 k (fun h => absurd h (by omega)) (fun _ => And.intro hi (nm_r (e' := ll_fl (k + 1) ed 0) (by rw [c1, ll_fl_s]) (nm_r (nI_1 k) q)))
theorem lx_clear {post : St2 → Prop} (hp : post (nl, nt, cl, se, vd, lk, op, ar, ln, en, so, lv, ll_fl 64 ed 0, pa, fp, fc, dp, hd, hc)) : wpX_clearEdges post (nl, nt, cl, se, vd, lk, op, ar, ln, en, so, lv, ed, pa, fp, fc, dp, hd, hc) := by
  have q := lx_clr hp 64 65 0 (by omega) (by omega)
  rw [ll_fl_0] at q
  exact ⟨65, q⟩
theorem lx_verL {post : St2 → Prop} {T : Nat} (hT : T ≤ 4) (hs : ∀ s, s < T → ∃ m, m ≤ 513 ∧ so s = nI m) (h : ∃ s, s < T ∧ so s = nI 513) (hp : post (nl, nI T, cl, se, 2, lk, op, ar, ln, en, so, lv, ll_fl 64 ed 0, pa, fp, fc, dp, hd, hc)) : wpX_decideVerdict post (nl, nI T, cl, se, vd, lk, op, ar, ln, en, so, lv, ed, pa, fp, fc, dp, hd, hc) := by
  unfold wpX_decideVerdict
  obtain ⟨s, h1, h2⟩ := h
  refine ⟨T + 1, lx_long1 hT hs ?_ T (T + 1) 0 (by omega) (by omega) ⟨s, by omega, h1, h2⟩⟩
  refine br_f ll_1n0 ?_
  exact lx_clear hp
theorem lx_verN {post : St2 → Prop} {L T : Nat} (h2 : 2 ≤ L) (hL : L ≤ 8) (hT : T ≤ 4) (hs : ∀ s, s < T → ∃ m, m ≤ 512 ∧ so s = nI m) (B : ll_EB L ed) (hl : ∀ j, j < 8 → lv j = 0)
    (hpC : ∀ pa' l, l < L → gr_P (ll_E ed) L l l → (∀ j, j < l → ¬ gr_P (ll_E ed) L j j) → post (nI L, nI T, cl, se, 1, nI l, op, ar, ln, en, so, lv, ed, pa', fp, fc, dp, hd, hc))
    (hpA : ∀ pa' lv' lev', (∀ x, ¬ gr_P (ll_E ed) L x x) → (∀ j, j < 8 → lv' j = nI (lev' j)) → gr_LI (ll_E ed) L (L - 1) (fun _ _ => False) lev' → post (nI L, nI T, cl, se, 0, -1, op, ar, ln, en, so, lv', ed, pa', fp, fc, dp, hd, hc)) : wpX_decideVerdict post (nI L, nI T, cl, se, vd, lk, op, ar, ln, en, so, lv, ed, pa, fp, fc, dp, hd, hc) := by
  unfold wpX_decideVerdict
  refine ⟨T + 1, lx_long0 hT hs (br_t rfl ?_) T (T + 1) 0 (by omega) (by omega)⟩
  refine lx_paths hL B (fun pa' I => ?_)
  obtain ⟨x, hx, hw⟩ := lx_low (nt := nI T) (cl := cl) (se := se) (vd := vd) (lk := lk) (op := op) (ar := ar) (ln := ln) (en := en) (so := so) (lv := lv) (ed := ed) (pa := pa') (fp := fp) (fc := fc) (dp := dp) (hd := hd) (hc := hc) hL
  refine hw _ ?_
  rcases hx with ⟨rfl, hx⟩ | ⟨l, hl', rfl, h3, h4⟩
  · have hac : ∀ x, ¬ gr_P (ll_E ed) L x x := by
      intro x q
      have hx' := (gr_dom (ll_Edom B) L q).1
      exact (I x x hx' hx').mpr q (hx x hx')
    exact br_t rfl (lx_infer h2 hL (ll_Edom B) hac hl (fun lv' lev' q1 q2 => hpA pa' lv' lev' hac q1 q2))
  · exact br_f (fun q => ll_m1 l (by omega) q.symm) (hpC pa' l hl' ((I l l hl' hl').mp h3) (fun j hj q => (I j j (by omega) (by omega)).mpr q (h4 j hj)))
end
end
section
/-! threads as stacks of (procedure, pc) and counts; what a solo run does, an interleaving does too -/
/-- a stack at rest -/
def tk_stl (ln : Nat → Int32) : List (Nat × Nat) → List (Nat × Nat)
  | [] => []
  | (p, c) :: s => if c < (ln p).toNatClampNeg then (p, c) :: s else tk_stl ln s
def tk_up (q : Nat → Nat) (a : Nat) : Nat → Nat := fun l => if l = a then q l + 1 else q l
def tk_dn (q : Nat → Nat) (a : Nat) : Nat → Nat := fun l => if l = a then q l - 1 else q l
/-- one instruction of a thread that is not blocked -/
def tk_nx (op ar ln : Nat → Int32) : List (Nat × Nat) × (Nat → Nat) → List (Nat × Nat) × (Nat → Nat)
  | ([], q) => ([], q)
  | ((p, c) :: s, q) =>
    if op (p * 8 + c) = 1 then (tk_stl ln ((p, c + 1) :: s), tk_up q (ar (p * 8 + c)).toNatClampNeg)
    else if op (p * 8 + c) = 2 then (tk_stl ln ((p, c + 1) :: s), tk_dn q (ar (p * 8 + c)).toNatClampNeg)
    else if op (p * 8 + c) = 3 then (tk_stl ln (((ar (p * 8 + c)).toNatClampNeg, 0) :: (p, c + 1) :: s), q)
    else (tk_stl ln ((p, c + 1) :: s), q)
/-- thread t alone, after k instructions -/
def tk_T (op ar ln en : Nat → Int32) (t : Nat) : Nat → List (Nat × Nat) × (Nat → Nat)
  | 0 => (tk_stl ln [((en t).toNatClampNeg, 0)], fun _ => 0)
  | k + 1 => tk_nx op ar ln (tk_T op ar ln en t k)
/-- the stack lies in the arrays -/
def tk_RS (fp fc : Nat → Int32) (b : Nat) : List (Nat × Nat) → Prop
  | [] => True
  | (p, c) :: s => p < 8 ∧ c ≤ 8 ∧ fp (b + s.length) = nI p ∧ fc (b + s.length) = nI c ∧ tk_RS fp fc b s
/-- thread t's part of the machine is x -/
def tk_TR (L t : Nat) (x : List (Nat × Nat) × (Nat → Nat)) (fp fc dp hd hc : Nat → Int32) : Prop :=
  dp t = nI x.1.length ∧ tk_RS fp fc (t * 8) x.1 ∧ ∀ l, l < L → (0 < x.2 l → hd l = nI t ∧ hc l = nI (x.2 l)) ∧ (x.2 l = 0 → ¬ hd l = nI t)
/-- where x wants a lock that it does not hold, the edges from all that it holds are there -/
def tk_EC (L : Nat) (op ar ed : Nat → Int32) (x : List (Nat × Nat) × (Nat → Nat)) : Prop :=
  ∀ p c s a, x.1 = (p, c) :: s → op (p * 8 + c) = 1 → ar (p * 8 + c) = nI a → a < L → x.2 a = 0 → ∀ l, l < L → 0 < x.2 l → ¬ ed (l * 8 + a) = 0
/-- what one instruction of t does to a lock -/
def tk_ch (t : Nat) (hd hc hd' hc' : Nat → Int32) (l : Nat) : Prop :=
  (hd' l = hd l ∧ hc' l = hc l) ∨ ((hd l = nI t ∨ (hd l = -1 ∧ hc l = 0)) ∧ (hd' l = nI t ∨ (hd' l = -1 ∧ hc' l = 0)))
section
variable {nl nt cl se vd lk : Int32} {op ar ln en so lv ed pa fp fc dp hd hc fp' fc' dp' hd' hc' : Nat → Int32}
theorem tk_b (t : Nat) : ∀ k l, (tk_T op ar ln en t k).2 l ≤ k := by
  intro k
  induction k with
  | zero => intro l; exact Nat.le_refl _
  | succ k ih =>
    intro l
    have h := ih l
    show (tk_nx op ar ln (tk_T op ar ln en t k)).2 l ≤ k + 1
    generalize tk_T op ar ln en t k = x at h
    obtain ⟨s, q⟩ := x
    cases s with
    | nil => exact Nat.le_succ_of_le h
    | cons y s =>
      obtain ⟨p, c⟩ := y
      have h' : q l ≤ k := h
      by_cases o1 : op (p * 8 + c) = 1
      · have e : tk_nx op ar ln ((p, c) :: s, q) = (tk_stl ln ((p, c + 1) :: s), tk_up q (ar (p * 8 + c)).toNatClampNeg) := if_pos o1
        rw [e]
        show (if l = (ar (p * 8 + c)).toNatClampNeg then q l + 1 else q l) ≤ k + 1
        split <;> omega
      · by_cases o2 : op (p * 8 + c) = 2
        · have e : tk_nx op ar ln ((p, c) :: s, q) = (tk_stl ln ((p, c + 1) :: s), tk_dn q (ar (p * 8 + c)).toNatClampNeg) := (if_neg o1).trans (if_pos o2)
          rw [e]
          show (if l = (ar (p * 8 + c)).toNatClampNeg then q l - 1 else q l) ≤ k + 1
          split <;> omega
        · by_cases o3 : op (p * 8 + c) = 3
          · have e : tk_nx op ar ln ((p, c) :: s, q) = (tk_stl ln (((ar (p * 8 + c)).toNatClampNeg, 0) :: (p, c + 1) :: s), q) := (if_neg o1).trans ((if_neg o2).trans (if_pos o3))
            rw [e]
            exact Nat.le_succ_of_le h'
          · have e : tk_nx op ar ln ((p, c) :: s, q) = (tk_stl ln ((p, c + 1) :: s), q) := (if_neg o1).trans ((if_neg o2).trans (if_neg o3))
            rw [e]
            exact Nat.le_succ_of_le h'
theorem tk_RScg {b : Nat} : ∀ s, (∀ i, i < s.length → fp' (b + i) = fp (b + i) ∧ fc' (b + i) = fc (b + i)) → tk_RS fp fc b s → tk_RS fp' fc' b s := by
  intro s
  induction s with
  | nil => intro _ _; trivial
  | cons y s ih =>
    obtain ⟨p, c⟩ := y
    intro h r
    have h1 := h s.length (by rw [List.length_cons]; omega)
    exact ⟨r.1, r.2.1, by rw [h1.1]; exact r.2.2.1, by rw [h1.2]; exact r.2.2.2.1, ih (fun i hi => h i (by rw [List.length_cons]; omega)) r.2.2.2.2⟩
theorem tk_sd {b : Nat} : ∀ s, tk_RS fp fc b s → ll_FR ln fp fc b s.length → ll_sd ln fp fc b s.length = (tk_stl ln s).length ∧ tk_RS fp fc b (tk_stl ln s) := by
  intro s
  induction s with
  | nil => intro _ _; exact ⟨rfl, trivial⟩
  | cons y s ih =>
    obtain ⟨p, c⟩ := y
    intro r F
    obtain ⟨p', c', n, e1, e2, e3, e4, e5, e6, e7⟩ := F s.length (by rw [List.length_cons]; omega)
    have hp : p' = p := (nI_eq (by omega) (by have := r.1; omega)).mp (e1.symm.trans r.2.2.1)
    have hc : c' = c := (nI_eq (by omega) (by have := r.2.1; omega)).mp (e4.symm.trans r.2.2.2.1)
    subst hp
    subst hc
    have hn : (ln p').toNatClampNeg = n := by rw [e5]; exact nI_clamp (by omega)
    by_cases h : c' < n
    · have q : tk_stl ln ((p', c') :: s) = (p', c') :: s := if_pos (by rw [hn]; exact h)
      rw [q]
      exact ⟨ll_sd_t e1 e3 e4 e5 h e7, r⟩
    · have q : tk_stl ln ((p', c') :: s) = tk_stl ln s := if_neg (by rw [hn]; exact h)
      rw [q, List.length_cons, ll_sd_f e1 e3 e4 e5 (by omega) e7]
      exact ih r.2.2.2.2 (ll_FRle F (by rw [List.length_cons]; omega))
theorem tk_top {T t p c : Nat} {s : List (Nat × Nat)} (S : ll_TS T ln fp fc dp) (ht : t < T) (hdp : dp t = nI (s.length + 1)) (hs : s.length < 100) (r : tk_RS fp fc (t * 8) ((p, c) :: s)) : s.length < 8 ∧ ll_FR ln fp fc (t * 8) (s.length + 1) ∧ ∃ m, fp (t * 8 + s.length) = nI p ∧ s.length ≤ p ∧ p < 8 ∧ fc (t * 8 + s.length) = nI c ∧ ln p = nI m ∧ c < m ∧ m ≤ 8 := by
  obtain ⟨he8, hF, p', c', m, h1, hep, hp8, h2, hl, hcm, hm⟩ := ll_cur (S.1 t ht) hdp (by omega)
  have hp : p' = p := (nI_eq (by omega) (by have := r.1; omega)).mp (h1.symm.trans r.2.2.1)
  have hc : c' = c := (nI_eq (by omega) (by have := r.2.1; omega)).mp (h2.symm.trans r.2.2.2.1)
  subst hp
  subst hc
  exact ⟨he8, hF, m, h1, hep, hp8, h2, hl, hcm, hm⟩
theorem tk_len {T t : Nat} {x : List (Nat × Nat) × (Nat → Nat)} {L : Nat} (S : ll_TS T ln fp fc dp) (ht : t < T) (hx : x.1.length < 2 ^ 31) (R : tk_TR L t x fp fc dp hd hc) : x.1.length ≤ 8 := by
  obtain ⟨d, h8, h1, _⟩ := S.1 t ht
  have e := R.1
  rw [h1, nI_eq (by omega) hx] at e
  omega
theorem tk_nxN {p c : Nat} {s : List (Nat × Nat)} {q : Nat → Nat} (ho : op (p * 8 + c) = 0) : tk_nx op ar ln ((p, c) :: s, q) = (tk_stl ln ((p, c + 1) :: s), q) := by
  show (if op (p * 8 + c) = 1 then _ else if op (p * 8 + c) = 2 then _ else if op (p * 8 + c) = 3 then _ else _) = _
  rw [ho, if_neg (by decide), if_neg (by decide), if_neg (by decide)]
theorem tk_nxA {p c a : Nat} {s : List (Nat × Nat)} {q : Nat → Nat} (ho : op (p * 8 + c) = 1) (ha : ar (p * 8 + c) = nI a) (ha8 : a < 8) : tk_nx op ar ln ((p, c) :: s, q) = (tk_stl ln ((p, c + 1) :: s), tk_up q a) := by
  show (if op (p * 8 + c) = 1 then _ else if op (p * 8 + c) = 2 then _ else if op (p * 8 + c) = 3 then _ else _) = _
  rw [if_pos ho, ha, nI_clamp (by omega)]
theorem tk_nxR {p c a : Nat} {s : List (Nat × Nat)} {q : Nat → Nat} (ho : op (p * 8 + c) = 2) (ha : ar (p * 8 + c) = nI a) (ha8 : a < 8) : tk_nx op ar ln ((p, c) :: s, q) = (tk_stl ln ((p, c + 1) :: s), tk_dn q a) := by
  show (if op (p * 8 + c) = 1 then _ else if op (p * 8 + c) = 2 then _ else if op (p * 8 + c) = 3 then _ else _) = _
  rw [if_neg (by rw [ho]; decide), if_pos ho, ha, nI_clamp (by omega)]
theorem tk_nxC {p c a : Nat} {s : List (Nat × Nat)} {q : Nat → Nat} (ho : op (p * 8 + c) = 3) (ha : ar (p * 8 + c) = nI a) (ha8 : a < 8) : tk_nx op ar ln ((p, c) :: s, q) = (tk_stl ln ((a, 0) :: (p, c + 1) :: s), q) := by
  show (if op (p * 8 + c) = 1 then _ else if op (p * 8 + c) = 2 then _ else if op (p * 8 + c) = 3 then _ else _) = _
  rw [if_neg (by rw [ho]; decide), if_neg (by rw [ho]; decide), if_pos ho, ha, nI_clamp (by omega)]
theorem tk_upa (q : Nat → Nat) (a : Nat) : tk_up q a a = q a + 1 := if_pos rfl
theorem tk_upo (q : Nat → Nat) {a l : Nat} (h : l ≠ a) : tk_up q a l = q l := if_neg h
theorem tk_dna (q : Nat → Nat) (a : Nat) : tk_dn q a a = q a - 1 := if_pos rfl
theorem tk_dno (q : Nat → Nat) {a l : Nat} (h : l ≠ a) : tk_dn q a l = q l := if_neg h
/-- acquired: the counts -/
theorem tk_lkA {L t a : Nat} {q : Nat → Nat} (hq : ∀ l, l < L → (0 < q l → hd l = nI t ∧ hc l = nI (q l)) ∧ (q l = 0 → ¬ hd l = nI t)) (ha : a < L) (hf : q a = 0 → hc a = 0) : ∀ l, l < L → (0 < tk_up q a l → upd hd a (nI t) l = nI t ∧ upd hc a (hc a + 1) l = nI (tk_up q a l)) ∧ (tk_up q a l = 0 → ¬ upd hd a (nI t) l = nI t) := by
  intro l hl
  by_cases e : l = a
  · subst e
    rw [tk_upa, pk_us, pk_us]
    refine ⟨fun _ => ⟨rfl, ?_⟩, fun z => absurd z (by omega)⟩
    by_cases z : q l = 0
    · rw [hf z, z]; rfl
    · rw [((hq l hl).1 (by omega)).2, nI_1]
  · rw [tk_upo q e, pk_un e, pk_un e]
    exact hq l hl
theorem tk_lkR {L t a : Nat} {q : Nat → Nat} (hq : ∀ l, l < L → (0 < q l → hd l = nI t ∧ hc l = nI (q l)) ∧ (q l = 0 → ¬ hd l = nI t)) (ha : a < L) (hb : q a < 1000) (hn : hd a = nI t) (htn : t < 2 ^ 31) : ∀ l, l < L → (0 < tk_dn q a l → (if hc a - 1 = 0 then upd hd a (-1) else hd) l = nI t ∧ upd hc a (hc a - 1) l = nI (tk_dn q a l)) ∧ (tk_dn q a l = 0 → ¬ (if hc a - 1 = 0 then upd hd a (-1) else hd) l = nI t) := by
  have h0 : 0 < q a := by
    by_cases z : q a = 0
    · exact absurd hn ((hq a ha).2 z)
    · omega
  obtain ⟨r, hr⟩ : ∃ r, q a = r + 1 := ⟨q a - 1, by omega⟩
  have hca : hc a - 1 = nI r := by rw [((hq a ha).1 h0).2, hr, nI_pred]
  intro l hl
  rw [hca]
  by_cases e : l = a
  · subst e
    rw [tk_dna, pk_us, hr, Nat.add_sub_cancel]
    by_cases z : r = 0
    · subst z
      rw [if_pos nI_0, pk_us]
      exact ⟨fun z => absurd z (by omega), fun _ => ll_m1 t htn⟩
    · rw [if_neg (nI_ne0 (by omega) (by omega))]
      exact ⟨fun _ => ⟨hn, rfl⟩, fun q => absurd q z⟩
  · rw [tk_dno q e, pk_un e]
    by_cases z : nI r = 0
    · rw [if_pos z, pk_un e]
      exact hq l hl
    · rw [if_neg z]
      exact hq l hl
theorem tk_lkR0 {L t a : Nat} {q : Nat → Nat} (hq : ∀ l, l < L → (0 < q l → hd l = nI t ∧ hc l = nI (q l)) ∧ (q l = 0 → ¬ hd l = nI t)) (ha : a < L) (hn : ¬ hd a = nI t) : ∀ l, l < L → (0 < tk_dn q a l → hd l = nI t ∧ hc l = nI (tk_dn q a l)) ∧ (tk_dn q a l = 0 → ¬ hd l = nI t) := by
  have h0 : q a = 0 := by
    by_cases z : q a = 0
    · exact z
    · exact absurd ((hq a ha).1 (by omega)).1 hn
  intro l hl
  by_cases e : l = a
  · subst e
    rw [tk_dna, h0]
    exact ⟨fun z => absurd z (by omega), fun _ => hn⟩
  · rw [tk_dno q e]
    exact hq l hl
end
end
section
/-! one instruction against the stack picture; edges -/
section
variable {nl nt cl se vd lk : Int32} {op ar ln en so lv ed pa fp fc dp hd hc fp' fc' dp' hd' hc' : Nat → Int32}
theorem tk_aem {t : Int32} {a : Nat} : ∀ k j, ¬ ed j = 0 → ¬ ll_ae hd t a k ed j = 0 := by
  intro k
  induction k with
  | zero => intro j h; exact h
  | succ k ih =>
    intro j h
    by_cases z : hd k = t
    · have e : ll_ae hd t a (k + 1) ed = upd (ll_ae hd t a k ed) (k * 8 + a) 1 := if_pos z
      rw [e]
      by_cases x : j = k * 8 + a
      · rw [x, pk_us]; exact ll_1n0
      · rw [pk_un x]; exact ih j h
    · have e : ll_ae hd t a (k + 1) ed = ll_ae hd t a k ed := if_neg z
      rw [e]
      exact ih j h
theorem tk_aeh {t : Int32} {a l : Nat} (hl : hd l = t) : ∀ k, l < k → ¬ ll_ae hd t a k ed (l * 8 + a) = 0 := by
  intro k
  induction k with
  | zero => intro h; omega
  | succ k ih =>
    intro h
    by_cases x : l = k
    · have e : ll_ae hd t a (k + 1) ed = upd (ll_ae hd t a k ed) (k * 8 + a) 1 := if_pos (by rw [← x]; exact hl)
      rw [e, x, pk_us]
      exact ll_1n0
    · have q := ih (by omega)
      by_cases z : hd k = t
      · have e : ll_ae hd t a (k + 1) ed = upd (ll_ae hd t a k ed) (k * 8 + a) 1 := if_pos z
        rw [e, pk_un (by omega)]
        exact q
      · have e : ll_ae hd t a (k + 1) ed = ll_ae hd t a k ed := if_neg z
        rw [e]
        exact q
theorem tk_ECm {L : Nat} {ed' : Nat → Int32} {x : List (Nat × Nat) × (Nat → Nat)} (h : tk_EC L op ar ed x) (hm : ∀ j, ¬ ed j = 0 → ¬ ed' j = 0) : tk_EC L op ar ed' x :=
  fun p c s a e1 e2 e3 e4 e5 l hl hq => hm _ (h p c s a e1 e2 e3 e4 e5 l hl hq)
theorem tx_exec {L T t : Nat} {x : List (Nat × Nat) × (Nat → Nat)} (hL : L ≤ 8) (hT : T ≤ 4) (ht : t < T) (C : ll_CI L op ar ln) (S : ll_TS T ln fp fc dp) (R : tk_TR L t x fp fc dp hd hc) (hlen : x.1.length ≤ 8) (hb : ∀ l, x.2 l < 1000) (hne : ¬ x.1 = []) (hfree : ∀ p c s a, x.1 = (p, c) :: s → op (p * 8 + c) = 1 → ar (p * 8 + c) = nI a → a < L → hd a = nI t ∨ (hd a = -1 ∧ hc a = 0)) :
    ∃ fp' fc' dp' hd' hc', ll_TS T ln fp' fc' dp' ∧ tk_TR L t (tk_nx op ar ln x) fp' fc' dp' hd' hc' ∧ (∀ s, s ≠ t → dp' s = dp s ∧ ∀ i, i < 8 → fp' (s * 8 + i) = fp (s * 8 + i) ∧ fc' (s * 8 + i) = fc (s * 8 + i)) ∧ (∀ l, l < L → tk_ch t hd hc hd' hc' l) ∧ (∀ post : St2 → Prop, post (nl, nt, cl, se, vd, lk, op, ar, ln, en, so, lv, ed, pa, fp', fc', dp', hd', hc') → wpX_execute post (nl, nt, cl, se, vd, lk, op, ar, ln, en, so, lv, ed, pa, fp, fc, dp, hd, hc) (nI t)) := by
  obtain ⟨st, q⟩ := x
  cases st with
  | nil => exact absurd rfl hne
  | cons y s =>
    obtain ⟨p, c⟩ := y
    have hdp : dp t = nI (s.length + 1) := R.1
    have hq := R.2.2
    have hln : s.length + 1 ≤ 8 := hlen
    have ht4 : t < 4 := by omega
    obtain ⟨he8, hF, m, h1, hep, hp8, h2, hl, hcm, hm⟩ := tk_top S ht hdp (by omega) R.2.1
    have hc8 : c < 8 := by omega
    obtain ⟨m', hm', hl', hcode⟩ := C p hp8
    have em : m' = m := (nI_eq (by omega) (by omega)).mp (hl'.symm.trans hl)
    subst em
    have hF' := ll_FRi hF h1 hep hp8 hl hcm hm
    have S' : ll_TS T ln fp (upd fc (t * 8 + s.length) (nI (c + 1))) (upd dp t (nI (ll_sd ln fp (upd fc (t * 8 + s.length) (nI (c + 1))) (t * 8) (s.length + 1)))) :=
      ll_TSx S ht (fun j hj => ⟨rfl, pk_un (hj s.length he8)⟩) (by omega) hF'
    have r1 : tk_RS fp (upd fc (t * 8 + s.length) (nI (c + 1))) (t * 8) ((p, c + 1) :: s) := ⟨hp8, by omega, h1, pk_us, tk_RScg s (fun i hi => ⟨rfl, pk_un (by omega)⟩) R.2.1.2.2.2.2⟩
    have sd1 := tk_sd (ln := ln) ((p, c + 1) :: s) r1 hF'
    have oth : ∀ s', s' ≠ t → upd dp t (nI (ll_sd ln fp (upd fc (t * 8 + s.length) (nI (c + 1))) (t * 8) (s.length + 1))) s' = dp s' ∧ ∀ i, i < 8 → fp (s' * 8 + i) = fp (s' * 8 + i) ∧ upd fc (t * 8 + s.length) (nI (c + 1)) (s' * 8 + i) = fc (s' * 8 + i) := fun s' hs' => ⟨pk_un hs', fun i hi => ⟨rfl, pk_un (by omega)⟩⟩
    rcases hcode c hcm with ho | ⟨ho, a, haL, ha⟩ | ⟨ho, a, haL, ha⟩ | ⟨ho, a, hpa, ha8, ha⟩
    · refine ⟨_, _, _, _, _, S', ?_, oth, fun l _ => Or.inl ⟨rfl, rfl⟩, fun post hp => lx_exN ht4 he8 hdp h1 hp8 h2 hc8 ho hF' hp⟩
      rw [tk_nxN ho]
      exact ⟨pk_us.trans (congrArg nI sd1.1), sd1.2, hq⟩
    · have ha8 : a < 8 := by omega
      have hfr := hfree p c s a rfl ho ha haL
      have hf : q a = 0 → hc a = 0 := by
        intro z
        rcases hfr with f | f
        · exact absurd f ((hq a haL).2 z)
        · exact f.2
      refine ⟨_, _, _, _, _, S', ?_, oth, fun l hl => ?_, fun post hp => lx_exA ht4 he8 hdp h1 hp8 h2 hc8 ho ha ha8 hF' hp⟩
      · rw [tk_nxA ho ha ha8]
        exact ⟨pk_us.trans (congrArg nI sd1.1), sd1.2, tk_lkA hq haL hf⟩
      · by_cases e : l = a
        · subst e
          exact Or.inr ⟨hfr, Or.inl pk_us⟩
        · exact Or.inl ⟨pk_un e, pk_un e⟩
    · have ha8 : a < 8 := by omega
      by_cases hn : hd a = nI t
      · refine ⟨_, _, _, _, _, S', ?_, oth, fun l hl => ?_, fun post hp => lx_exR1 ht4 he8 hdp h1 hp8 h2 hc8 ho ha ha8 hn hF' hp⟩
        · rw [tk_nxR ho ha ha8]
          exact ⟨pk_us.trans (congrArg nI sd1.1), sd1.2, tk_lkR hq haL (hb a) hn (by omega)⟩
        · by_cases e : l = a
          · subst e
            refine Or.inr ⟨Or.inl hn, ?_⟩
            by_cases z : hc l - 1 = 0
            · rw [if_pos z, pk_us, pk_us]
              exact Or.inr ⟨rfl, z⟩
            · rw [if_neg z]
              exact Or.inl hn
          · refine Or.inl ⟨?_, pk_un e⟩
            by_cases z : hc a - 1 = 0
            · rw [if_pos z, pk_un e]
            · rw [if_neg z]
      · refine ⟨_, _, _, _, _, S', ?_, oth, fun l _ => Or.inl ⟨rfl, rfl⟩, fun post hp => lx_exR0 ht4 he8 hdp h1 hp8 h2 hc8 ho ha ha8 hn hF' hp⟩
        rw [tk_nxR ho ha ha8]
        exact ⟨pk_us.trans (congrArg nI sd1.1), sd1.2, tk_lkR0 hq haL hn⟩
    · obtain ⟨ma, hma, hla, _⟩ := C a ha8
      have hF2 := ll_FRc (a := a) (m := ma) hF' (by omega) ha8 hla hma
      have S2 := ll_TSx (dp := dp) (d := s.length + 2) S ht (fun j hj => ⟨pk_un (hj (s.length + 1) (by omega)), by rw [pk_un (hj (s.length + 1) (by omega)), pk_un (hj s.length he8)]⟩) (by omega) hF2
      have r2 : tk_RS (upd fp (t * 8 + (s.length + 1)) (nI a)) (upd (upd fc (t * 8 + s.length) (nI (c + 1))) (t * 8 + (s.length + 1)) 0) (t * 8) ((a, 0) :: (p, c + 1) :: s) :=
        ⟨ha8, by omega, pk_us, pk_us, tk_RScg ((p, c + 1) :: s) (fun i hi => by
          have hi' : i < s.length + 1 := hi
          exact ⟨pk_un (by omega), pk_un (by omega)⟩) r1⟩
      have sd2 := tk_sd (ln := ln) ((a, 0) :: (p, c + 1) :: s) r2 hF2
      refine ⟨_, _, _, _, _, S2, ?_, fun s' hs' => ⟨pk_un hs', fun i hi => ⟨pk_un (by omega), by rw [pk_un (show s' * 8 + i ≠ t * 8 + (s.length + 1) by omega), pk_un (show s' * 8 + i ≠ t * 8 + s.length by omega)]⟩⟩, fun l _ => Or.inl ⟨rfl, rfl⟩, fun post hp => lx_exC ht4 (by omega) hdp h1 hp8 h2 hc8 ho ha hF2 hp⟩
      rw [tk_nxC ho ha ha8]
      exact ⟨pk_us.trans (congrArg nI sd2.1), sd2.2, hq⟩
theorem tx_exec_2 {L T t : Nat} {x : List (Nat × Nat) × (Nat → Nat)} (hL : L ≤ 8) (hT : T ≤ 4) (ht : t < T) (C : ll_CI L op ar ln) (S : ll_TS T ln fp fc dp) (R : tk_TR L t x fp fc dp hd hc) (hlen : x.1.length ≤ 8) (hb : ∀ l, x.2 l < 1000) (hne : ¬ x.1 = []) (hfree : ∀ p c s a, x.1 = (p, c) :: s → op (p * 8 + c) = 1 → ar (p * 8 + c) = nI a → a < L → hd a = nI t ∨ (hd a = -1 ∧ hc a = 0)) :
    ∃ fp' fc' dp' hd' hc', ll_TS T ln fp' fc' dp' ∧ tk_TR L t (tk_nx op ar ln x) fp' fc' dp' hd' hc' ∧ (∀ s, s ≠ t → dp' s = dp s ∧ ∀ i, i < 8 → fp' (s * 8 + i) = fp (s * 8 + i) ∧ fc' (s * 8 + i) = fc (s * 8 + i)) ∧ (∀ l, l < L → tk_ch t hd hc hd' hc' l) ∧ (∀ post : St2 → Prop, post (nl, nt, cl, se, vd, lk, op, ar, ln, en, so, lv, ed, pa, fp', fc', dp', hd', hc') → wpX_execute_2 post (nl, nt, cl, se, vd, lk, op, ar, ln, en, so, lv, ed, pa, fp, fc, dp, hd, hc) (nI t)) := by
  obtain ⟨st, q⟩ := x
  cases st with
  | nil => exact absurd rfl hne
  | cons y s =>
    obtain ⟨p, c⟩ := y
    have hdp : dp t = nI (s.length + 1) := R.1
    have hq := R.2.2
    have hln : s.length + 1 ≤ 8 := hlen
    have ht4 : t < 4 := by omega
    obtain ⟨he8, hF, m, h1, hep, hp8, h2, hl, hcm, hm⟩ := tk_top S ht hdp (by omega) R.2.1
    have hc8 : c < 8 := by omega
    obtain ⟨m', hm', hl', hcode⟩ := C p hp8
    have em : m' = m := (nI_eq (by omega) (by omega)).mp (hl'.symm.trans hl)
    subst em
    have hF' := ll_FRi hF h1 hep hp8 hl hcm hm
    have S' : ll_TS T ln fp (upd fc (t * 8 + s.length) (nI (c + 1))) (upd dp t (nI (ll_sd ln fp (upd fc (t * 8 + s.length) (nI (c + 1))) (t * 8) (s.length + 1)))) :=
      ll_TSx S ht (fun j hj => ⟨rfl, pk_un (hj s.length he8)⟩) (by omega) hF'
    have r1 : tk_RS fp (upd fc (t * 8 + s.length) (nI (c + 1))) (t * 8) ((p, c + 1) :: s) := ⟨hp8, by omega, h1, pk_us, tk_RScg s (fun i hi => ⟨rfl, pk_un (by omega)⟩) R.2.1.2.2.2.2⟩
    have sd1 := tk_sd (ln := ln) ((p, c + 1) :: s) r1 hF'
    have oth : ∀ s', s' ≠ t → upd dp t (nI (ll_sd ln fp (upd fc (t * 8 + s.length) (nI (c + 1))) (t * 8) (s.length + 1))) s' = dp s' ∧ ∀ i, i < 8 → fp (s' * 8 + i) = fp (s' * 8 + i) ∧ upd fc (t * 8 + s.length) (nI (c + 1)) (s' * 8 + i) = fc (s' * 8 + i) := fun s' hs' => ⟨pk_un hs', fun i hi => ⟨rfl, pk_un (by omega)⟩⟩
    rcases hcode c hcm with ho | ⟨ho, a, haL, ha⟩ | ⟨ho, a, haL, ha⟩ | ⟨ho, a, hpa, ha8, ha⟩
    · refine ⟨_, _, _, _, _, S', ?_, oth, fun l _ => Or.inl ⟨rfl, rfl⟩, fun post hp => lx_exN_2 ht4 he8 hdp h1 hp8 h2 hc8 ho hF' hp⟩
      rw [tk_nxN ho]
      exact ⟨pk_us.trans (congrArg nI sd1.1), sd1.2, hq⟩
    · have ha8 : a < 8 := by omega
      have hfr := hfree p c s a rfl ho ha haL
      have hf : q a = 0 → hc a = 0 := by
        intro z
        rcases hfr with f | f
        · exact absurd f ((hq a haL).2 z)
        · exact f.2
      refine ⟨_, _, _, _, _, S', ?_, oth, fun l hl => ?_, fun post hp => lx_exA_2 ht4 he8 hdp h1 hp8 h2 hc8 ho ha ha8 hF' hp⟩
      · rw [tk_nxA ho ha ha8]
        exact ⟨pk_us.trans (congrArg nI sd1.1), sd1.2, tk_lkA hq haL hf⟩
      · by_cases e : l = a
        · subst e
          exact Or.inr ⟨hfr, Or.inl pk_us⟩
        · exact Or.inl ⟨pk_un e, pk_un e⟩
    · have ha8 : a < 8 := by omega
      by_cases hn : hd a = nI t
      · refine ⟨_, _, _, _, _, S', ?_, oth, fun l hl => ?_, fun post hp => lx_exR1_2 ht4 he8 hdp h1 hp8 h2 hc8 ho ha ha8 hn hF' hp⟩
        · rw [tk_nxR ho ha ha8]
          exact ⟨pk_us.trans (congrArg nI sd1.1), sd1.2, tk_lkR hq haL (hb a) hn (by omega)⟩
        · by_cases e : l = a
          · subst e
            refine Or.inr ⟨Or.inl hn, ?_⟩
            by_cases z : hc l - 1 = 0
            · rw [if_pos z, pk_us, pk_us]
              exact Or.inr ⟨rfl, z⟩
            · rw [if_neg z]
              exact Or.inl hn
          · refine Or.inl ⟨?_, pk_un e⟩
            by_cases z : hc a - 1 = 0
            · rw [if_pos z, pk_un e]
            · rw [if_neg z]
      · refine ⟨_, _, _, _, _, S', ?_, oth, fun l _ => Or.inl ⟨rfl, rfl⟩, fun post hp => lx_exR0_2 ht4 he8 hdp h1 hp8 h2 hc8 ho ha ha8 hn hF' hp⟩
        rw [tk_nxR ho ha ha8]
        exact ⟨pk_us.trans (congrArg nI sd1.1), sd1.2, tk_lkR0 hq haL hn⟩
    · obtain ⟨ma, hma, hla, _⟩ := C a ha8
      have hF2 := ll_FRc (a := a) (m := ma) hF' (by omega) ha8 hla hma
      have S2 := ll_TSx (dp := dp) (d := s.length + 2) S ht (fun j hj => ⟨pk_un (hj (s.length + 1) (by omega)), by rw [pk_un (hj (s.length + 1) (by omega)), pk_un (hj s.length he8)]⟩) (by omega) hF2
      have r2 : tk_RS (upd fp (t * 8 + (s.length + 1)) (nI a)) (upd (upd fc (t * 8 + s.length) (nI (c + 1))) (t * 8 + (s.length + 1)) 0) (t * 8) ((a, 0) :: (p, c + 1) :: s) :=
        ⟨ha8, by omega, pk_us, pk_us, tk_RScg ((p, c + 1) :: s) (fun i hi => by
          have hi' : i < s.length + 1 := hi
          exact ⟨pk_un (by omega), pk_un (by omega)⟩) r1⟩
      have sd2 := tk_sd (ln := ln) ((a, 0) :: (p, c + 1) :: s) r2 hF2
      refine ⟨_, _, _, _, _, S2, ?_, fun s' hs' => ⟨pk_un hs', fun i hi => ⟨pk_un (by omega), by rw [pk_un (show s' * 8 + i ≠ t * 8 + (s.length + 1) by omega), pk_un (show s' * 8 + i ≠ t * 8 + s.length by omega)]⟩⟩, fun l _ => Or.inl ⟨rfl, rfl⟩, fun post hp => lx_exC_2 ht4 (by omega) hdp h1 hp8 h2 hc8 ho ha hF2 hp⟩
      rw [tk_nxC ho ha ha8]
      exact ⟨pk_us.trans (congrArg nI sd2.1), sd2.2, hq⟩
theorem tx_add {L T t : Nat} {x : List (Nat × Nat) × (Nat → Nat)} (hL : L ≤ 8) (hT : T ≤ 4) (ht : t < T) (C : ll_CI L op ar ln) (S : ll_TS T ln fp fc dp) (R : tk_TR L t x fp fc dp hd hc) (hlen : x.1.length ≤ 8) (hne : ¬ x.1 = []) (B : ll_EB L ed) :
    ∃ ed', ll_EB L ed' ∧ (∀ j, ¬ ed j = 0 → ¬ ed' j = 0) ∧ tk_EC L op ar ed' x ∧ (∀ post : St2 → Prop, post (nI L, nt, cl, se, vd, lk, op, ar, ln, en, so, lv, ed', pa, fp, fc, dp, hd, hc) → wpX_addEdges post (nI L, nt, cl, se, vd, lk, op, ar, ln, en, so, lv, ed, pa, fp, fc, dp, hd, hc) (nI t)) := by
  obtain ⟨st, q⟩ := x
  cases st with
  | nil => exact absurd rfl hne
  | cons y s =>
    obtain ⟨p, c⟩ := y
    have hdp : dp t = nI (s.length + 1) := R.1
    have hq := R.2.2
    have hln : s.length + 1 ≤ 8 := hlen
    have ht4 : t < 4 := by omega
    obtain ⟨he8, hF, m, h1, hep, hp8, h2, hl, hcm, hm⟩ := tk_top S ht hdp (by omega) R.2.1
    have hc8 : c < 8 := by omega
    obtain ⟨m', hm', hl', hcode⟩ := C p hp8
    have em : m' = m := (nI_eq (by omega) (by omega)).mp (hl'.symm.trans hl)
    subst em
    have uq : ∀ p' c' s', ((p, c) :: s, q).1 = (p', c') :: s' → p = p' ∧ c = c' := by
      intro p' c' s' e
      injection e with e1 e2
      injection e1 with e3 e4
      exact ⟨e3, e4⟩
    have neg : ¬ op (p * 8 + c) = 1 → ∃ ed', ll_EB L ed' ∧ (∀ j, ¬ ed j = 0 → ¬ ed' j = 0) ∧ tk_EC L op ar ed' ((p, c) :: s, q) ∧ (∀ post : St2 → Prop, post (nI L, nt, cl, se, vd, lk, op, ar, ln, en, so, lv, ed', pa, fp, fc, dp, hd, hc) → wpX_addEdges post (nI L, nt, cl, se, vd, lk, op, ar, ln, en, so, lv, ed, pa, fp, fc, dp, hd, hc) (nI t)) := by
      intro ho1
      refine ⟨ed, B, fun _ h => h, fun p' c' s' a e ho => ?_, fun post hp => lx_ae0 ht4 he8 hdp h1 hp8 h2 hc8 ho1 hp⟩
      obtain ⟨u1, u2⟩ := uq p' c' s' e
      rw [← u1, ← u2] at ho
      exact absurd ho ho1
    rcases hcode c hcm with ho | ⟨ho, a, haL, ha⟩ | ⟨ho, _⟩ | ⟨ho, _⟩
    · exact neg (by rw [ho]; decide)
    · have ha8 : a < 8 := by omega
      have ua : ∀ p' c' s' a', ((p, c) :: s, q).1 = (p', c') :: s' → ar (p' * 8 + c') = nI a' → a' < L → a' = a := by
        intro p' c' s' a' e e2 e3
        obtain ⟨u1, u2⟩ := uq p' c' s' e
        rw [← u1, ← u2, ha, nI_eq (by omega) (by omega)] at e2
        exact e2.symm
      by_cases hn : hd a = nI t
      · refine ⟨ed, B, fun _ h => h, fun p' c' s' a' e _ e2 e3 e4 => ?_, fun post hp => lx_ae1 ht4 he8 hdp h1 hp8 h2 hc8 ho ha ha8 hn hp⟩
        have := ua p' c' s' a' e e2 e3
        subst this
        exact absurd hn ((hq a' haL).2 e4)
      · refine ⟨ll_ae hd (nI t) a L ed, ll_EBa B hL haL L (Nat.le_refl _), fun j h => tk_aem L j h, fun p' c' s' a' e _ e2 e3 _ l hl hql => ?_, fun post hp => lx_ae2 hL ht4 he8 hdp h1 hp8 h2 hc8 ho ha ha8 hn hp⟩
        have := ua p' c' s' a' e e2 e3
        subst this
        exact tk_aeh ((hq l hl).1 hql).1 L hl
    · exact neg (by rw [ho]; decide)
    · exact neg (by rw [ho]; decide)
theorem tk_TRo {L t s : Nat} {x : List (Nat × Nat) × (Nat → Nat)} (R : tk_TR L s x fp fc dp hd hc) (hlen : x.1.length ≤ 8) (hst : s ≠ t) (hs4 : s < 4) (ht4 : t < 4) (hfr : dp' s = dp s ∧ ∀ i, i < 8 → fp' (s * 8 + i) = fp (s * 8 + i) ∧ fc' (s * 8 + i) = fc (s * 8 + i)) (hch : ∀ l, l < L → tk_ch t hd hc hd' hc' l) : tk_TR L s x fp' fc' dp' hd' hc' := by
  have ne : ¬ nI t = nI s := fun e => hst ((nI_eq (by omega) (by omega)).mp e).symm
  have ne1 : ¬ (-1 : Int32) = nI s := ll_m1 s (by omega)
  refine ⟨by rw [hfr.1]; exact R.1, tk_RScg x.1 (fun i hi => hfr.2 i (by omega)) R.2.1, fun l hl => ?_⟩
  rcases hch l hl with ⟨h1, h2⟩ | ⟨h1, h2⟩
  · rw [h1, h2]
    exact R.2.2 l hl
  · have n1 : ¬ hd l = nI s := by
      rcases h1 with h | h
      · rw [h]; exact ne
      · rw [h.1]; exact ne1
    have n2 : ¬ hd' l = nI s := by
      rcases h2 with h | h
      · rw [h]; exact ne
      · rw [h.1]; exact ne1
    exact ⟨fun z => absurd ((R.2.2 l hl).1 z).1 n1, fun _ => n2⟩
end
end
section
/-! waits, steps, runs, deadlocks in lockstep -/
def ll_fld (v i : Int32) : Int32 := ((v.toUInt32 >>> ((2 * (i - i / 16 * 16)).toUInt32 &&& Int32.toUInt32 31)).toInt32) &&& 3
theorem ll_clamp (x : Int32) (a b : Nat) (hab : a ≤ b) (hb : b < 2 ^ 31) : ∃ L, a ≤ L ∧ L ≤ b ∧ ∀ F : Int32 → Prop, F (nI L) → ((nI a ≤ x → ((x ≤ nI b → F x) ∧ (¬ x ≤ nI b → F (nI b)))) ∧ (¬ nI a ≤ x → F (nI a))) := by
  by_cases h1 : nI a ≤ x
  · by_cases h2 : x ≤ nI b
    · have h0 : ¬ x < 0 := fun q => nI_pos (show a < 2 ^ 31 by omega) (Int32.lt_of_le_of_lt h1 q)
      obtain ⟨j, hj, rfl⟩ := nI_of h0
      rw [nI_leI (by omega) hj] at h1
      rw [nI_leI hj hb] at h2
      exact ⟨j, h1, h2, fun F hF => br_t (nI_le h1 hj) (br_t (nI_le h2 hb) hF)⟩
    · exact ⟨b, hab, Nat.le_refl _, fun F hF => br_t h1 (br_f h2 hF)⟩
  · exact ⟨a, Nat.le_refl _, hab, fun F hF => br_f h1 hF⟩
theorem ll_TS0 {T : Nat} {ln fp fc dp : Nat → Int32} (hT : T ≤ 4) (h : ∀ t, t < 4 → dp t = 0) : ll_TS T ln fp fc dp :=
  ⟨fun t ht => ⟨0, by omega, h t (by omega), fun i hi => absurd hi (by omega), rfl⟩, fun t _ h4 => h t h4⟩
section
variable {nl nt cl se vd lk : Int32} {op ar ln en so lv ed pa fp fc dp hd hc fp' fc' dp' hd' hc' : Nat → Int32}
theorem lx_thr1 {post : Int32 → Prop} {T j : Nat} (hj : j < T) (hT : T ≤ 4) (hp : post 1) : wpX_isThread post (nl, nI T, cl, se, vd, lk, op, ar, ln, en, so, lv, ed, pa, fp, fc, dp, hd, hc) (nI j) :=
  br_f (nI_pos (by omega)) (br_f (nI_ge hj (by omega)) hp)
theorem lx_thr0 {post : Int32 → Prop} {T : Nat} {x : Int32} (hx : x < 0 ∨ nI T ≤ x) (hp : post 0) : wpX_isThread post (nl, nI T, cl, se, vd, lk, op, ar, ln, en, so, lv, ed, pa, fp, fc, dp, hd, hc) x := by
  by_cases h : x < 0
  · exact br_t h hp
  · rcases hx with q | q
    · exact absurd q h
    · exact br_f h (br_t q hp)
theorem lx_lock1 {post : Int32 → Prop} {L j : Nat} (hj : j < L) (hL : L ≤ 8) (hp : post 1) : wpX_isLock post (nI L, nt, cl, se, vd, lk, op, ar, ln, en, so, lv, ed, pa, fp, fc, dp, hd, hc) (nI j) :=
  br_f (nI_pos (by omega)) (br_f (nI_ge hj (by omega)) hp)
theorem lx_lock0 {post : Int32 → Prop} {L : Nat} {x : Int32} (hx : x < 0 ∨ nI L ≤ x) (hp : post 0) : wpX_isLock post (nI L, nt, cl, se, vd, lk, op, ar, ln, en, so, lv, ed, pa, fp, fc, dp, hd, hc) x := by
  by_cases h : x < 0
  · exact br_t h hp
  · rcases hx with q | q
    · exact absurd q h
    · exact br_f h (br_t q hp)
theorem lx_run0 {post : Int32 → Prop} {T : Nat} {x : Int32} (hx : x < 0 ∨ nI T ≤ x) (hp : post 0) : wpX_isRunning post (nl, nI T, cl, 1, vd, lk, op, ar, ln, en, so, lv, ed, pa, fp, fc, dp, hd, hc) x :=
  br_f ll_1n0 (lx_thr0 hx (br_t rfl hp))
theorem lx_run1 {post : Int32 → Prop} {T t d : Nat} (ht : t < T) (hT : T ≤ 4) (hdp : dp t = nI d) (h8 : d ≤ 8) (h0 : d = 0 → post 0) (h1 : d ≠ 0 → post 1) : wpX_isRunning post (nl, nI T, cl, 1, vd, lk, op, ar, ln, en, so, lv, ed, pa, fp, fc, dp, hd, hc) (nI t) :=
  br_f ll_1n0 (lx_thr1 ht hT (br_f ll_1n0 (lx_isDone (by omega) hdp h8 (fun z => br_f ll_1n0 (h0 z)) (fun z => br_t rfl (h1 z)))))
theorem lx_wait0 {post : Int32 → Prop} {T : Nat} {x : Int32} (hx : x < 0 ∨ nI T ≤ x) (hp : post (-1)) : wpX_waitsFor post (nl, nI T, cl, 1, vd, lk, op, ar, ln, en, so, lv, ed, pa, fp, fc, dp, hd, hc) x := by
  unfold wpX_waitsFor
  exact lx_run0 hx (br_t rfl hp)
theorem lx_waitD {post : Int32 → Prop} {T t : Nat} (ht : t < T) (hT : T ≤ 4) (hdp : dp t = nI 0) (hp : post (-1)) : wpX_waitsFor post (nl, nI T, cl, 1, vd, lk, op, ar, ln, en, so, lv, ed, pa, fp, fc, dp, hd, hc) (nI t) := by
  unfold wpX_waitsFor
  exact lx_run1 ht hT hdp (by omega) (fun _ => br_t rfl hp) (fun z => absurd rfl z)
theorem lx_waitN {post : Int32 → Prop} {T t e p c : Nat} (ht : t < T) (hT : T ≤ 4) (he : e < 8) (hdp : dp t = nI (e + 1)) (h1 : fp (t * 8 + e) = nI p) (hp8 : p < 8) (h2 : fc (t * 8 + e) = nI c) (hc8 : c < 8) (ho : ¬ op (p * 8 + c) = 1) (hp : post (-1)) : wpX_waitsFor post (nl, nI T, cl, 1, vd, lk, op, ar, ln, en, so, lv, ed, pa, fp, fc, dp, hd, hc) (nI t) := by
  unfold wpX_waitsFor
  have c1 : (nI (p * 8 + c)).toNatClampNeg = p * 8 + c := nI_clamp (by omega)
  refine lx_run1 ht hT hdp (by omega) (fun z => absurd z (by omega)) (fun _ => br_f ll_1n0 ?_)
  refine lx_cell (by omega) hdp he h1 h2 ?_
  exact ⟨vp_in_nI (by omega) (by decide), br_f (by rw [c1]; exact ho) hp⟩
theorem lx_waitA {post : Int32 → Prop} {T t e p c a : Nat} (ht : t < T) (hT : T ≤ 4) (he : e < 8) (hdp : dp t = nI (e + 1)) (h1 : fp (t * 8 + e) = nI p) (hp8 : p < 8) (h2 : fc (t * 8 + e) = nI c) (hc8 : c < 8) (ho : op (p * 8 + c) = 1) (ha : ar (p * 8 + c) = nI a) (ha8 : a < 8) (hp1 : hd a = nI t → post (-1)) (hp0 : ¬ hd a = nI t → post (hd a)) : wpX_waitsFor post (nl, nI T, cl, 1, vd, lk, op, ar, ln, en, so, lv, ed, pa, fp, fc, dp, hd, hc) (nI t) := by
  unfold wpX_waitsFor
  have c1 : (nI (p * 8 + c)).toNatClampNeg = p * 8 + c := nI_clamp (by omega)
  have c2 : (nI a).toNatClampNeg = a := nI_clamp (by omega)
  have hz : vp_in (nI (p * 8 + c)) 64 := vp_in_nI (by omega) (by decide)
  refine lx_run1 ht hT hdp (by omega) (fun z => absurd z (by omega)) (fun _ => br_f ll_1n0 ?_)
  refine lx_cell (by omega) hdp he h1 h2 ?_
  exact ⟨hz, br_t (by rw [c1]; exact ho) ⟨hz, by rw [c1, ha]; exact vp_in_nI ha8 (by decide), nm_r (e' := hd a) (by rw [c1, ha, c2]) (br_c hp1 hp0)⟩⟩
theorem ll_CIu {L p n : Nat} {o a : Int32} (C : ll_CI L op ar ln) (hp8 : p < 8) (hl : ln p = nI n) (hn : n < 8) (hok : o = 0 ∨ (o = 1 ∧ ∃ b, b < L ∧ a = nI b) ∨ (o = 2 ∧ ∃ b, b < L ∧ a = nI b) ∨ (o = 3 ∧ ∃ b, p < b ∧ b < 8 ∧ a = nI b)) : ll_CI L (upd op (p * 8 + n) o) (upd ar (p * 8 + n) a) (upd ln p (nI (n + 1))) := by
  intro q hq
  obtain ⟨m, hm, hl', hcode⟩ := C q hq
  by_cases e : q = p
  · subst e
    have em : m = n := (nI_eq (by omega) (by omega)).mp (hl'.symm.trans hl)
    subst em
    refine ⟨m + 1, by omega, pk_us, fun i hi => ?_⟩
    by_cases x : i = m
    · rw [x, pk_us, pk_us]
      exact hok
    · rw [pk_un (show q * 8 + i ≠ q * 8 + m by omega), pk_un (show q * 8 + i ≠ q * 8 + m by omega)]
      exact hcode i (by omega)
  · refine ⟨m, hm, by rw [pk_un e]; exact hl', fun i hi => ?_⟩
    rw [pk_un (show q * 8 + i ≠ p * 8 + n by omega), pk_un (show q * 8 + i ≠ p * 8 + n by omega)]
    exact hcode i hi
theorem lx_em {post : Int32 → St2 → Prop} {p n : Nat} {o g a : Int32} (hp8 : p < 8) (hl : ln p = nI n) (hn8 : n ≤ 8) (ho0 : ¬ o < 0) (ho3 : o ≤ 3) (hfit : ∀ post' : Int32 → Prop, post' 1 → wpX_argumentFits post' (nl, nt, cl, 0, vd, lk, op, ar, ln, en, so, lv, ed, pa, fp, fc, dp, hd, hc) (nI p) o g) (hoa : (o = 0 ∧ a = 0) ∨ (¬ o = 0 ∧ a = g)) (hfull : 8 ≤ n ∨ ¬ cl < 32 → post (-5) (nl, nt, cl, 0, vd, lk, op, ar, ln, en, so, lv, ed, pa, fp, fc, dp, hd, hc)) (hok : n < 8 → cl < 32 → post (nI n) (nl, nt, cl + 1, 0, vd, lk, upd op (p * 8 + n) o, upd ar (p * 8 + n) a, upd ln p (nI (n + 1)), en, so, lv, ed, pa, fp, fc, dp, hd, hc)) : wpX_emit post (nl, nt, cl, 0, vd, lk, op, ar, ln, en, so, lv, ed, pa, fp, fc, dp, hd, hc) (nI p) o g := by
  have c1 : (nI p).toNatClampNeg = p := nI_clamp (by omega)
  have hi : vp_in (nI p) 8 := vp_in_nI hp8 (by decide)
  refine br_t rfl (br_f (nI_pos (by omega)) (br_f (nI_ge (b := 8) hp8 (by decide)) (br_f ll_1n0 (br_f ho0 (br_t ho3 ?_)))))
  refine hfit _ ?_
  refine br_f ll_1n0 ⟨hi, nm_r (e' := nI n) (by rw [c1]; exact hl) (pk_le 8 n (fun h => hfull (Or.inl h)) (fun h => br_c (fun hcl => ?_) (fun hcl => hfull (Or.inr hcl))))⟩
  have hok' := hok h hcl
  have c2 : (nI (p * 8 + n)).toNatClampNeg = p * 8 + n := nI_clamp (by omega)
  have hz : vp_in (nI (p * 8 + n)) 64 := vp_in_nI (by omega) (by decide)
  refine nm_r (e' := nI (p * 8 + n)) (ll_cel p n) ⟨hz, nm_r (e' := upd op (p * 8 + n) o) (by rw [c2]) ?_⟩
  have fin : wX_emit_103 post (nI p) (nI n) a (nI (p * 8 + n)) nl nt cl 0 vd lk (upd op (p * 8 + n) o) ar ln en so lv ed pa fp fc dp hd hc :=
    And.intro hz (nm_r (e' := upd ar (p * 8 + n) a) (by rw [c2]) ⟨hi, nm_r (e' := upd ln p (nI (n + 1))) (by rw [c1, nI_1]) (nm_e hok')⟩)
  rcases hoa with ⟨h0, ha⟩ | ⟨h0, ha⟩
  · subst ha
    exact br_t h0 fin
  · subst ha
    exact br_f h0 fin
theorem ll_o4 {o : Int32} (h0 : ¬ o < 0) (h3 : o ≤ 3) : o = 0 ∨ o = 1 ∨ o = 2 ∨ o = 3 := by
  obtain ⟨j, hj, rfl⟩ := nI_of2 (n := 3) (by decide) h0 h3
  have : j = 0 ∨ j = 1 ∨ j = 2 ∨ j = 3 := by omega
  rcases this with rfl | rfl | rfl | rfl
  · exact Or.inl rfl
  · exact Or.inr (Or.inl rfl)
  · exact Or.inr (Or.inr (Or.inl rfl))
  · exact Or.inr (Or.inr (Or.inr rfl))
theorem ll_ge0 {T : Nat} {x : Int32} (hT : T < 2 ^ 31) (hx : nI T ≤ x) : ¬ x < 0 := fun q => nI_pos hT (Int32.lt_of_le_of_lt hx q)
theorem ll_gel {T : Nat} {x : Int32} (hx : nI T ≤ x) : ¬ x < nI T := fun q => Int32.lt_irrefl (Int32.lt_of_lt_of_le q hx)
theorem ll_7 {x : Int32} (h : (8 : Int32) ≤ x) : ¬ x ≤ 7 := fun q => absurd (Int32.le_trans h q) (by decide)
theorem ll_7n {p : Nat} (h : p < 8) : nI p ≤ 7 := nI_le (b := 7) (by omega) (by decide)
end
end
section
/-! the solo runs, the verdict, the machine's start -/
def tk_MI (L T : Nat) (op ar ln en ed fp fc dp hd hc : Nat → Int32) : Prop :=
  ll_TS T ln fp fc dp ∧ (∀ l, l < L → (hd l = -1 ∧ hc l = 0) ∨ ∃ s, s < T ∧ hd l = nI s) ∧ (∀ t, t < T → ∃ k n, k ≤ n ∧ n ≤ 512 ∧ (tk_T op ar ln en t n).1 = [] ∧ (∀ j, j < n → tk_EC L op ar ed (tk_T op ar ln en t j)) ∧ tk_TR L t (tk_T op ar ln en t k) fp fc dp hd hc)
/-- not sealed -/
def tk_U (L T : Nat) (u : St2) : Prop :=
  ∃ (cl : Int32) (op ar ln en so lv ed pa fp fc dp hd hc : Nat → Int32), u = (nI L, nI T, cl, 0, -1, -1, op, ar, ln, en, so, lv, ed, pa, fp, fc, dp, hd, hc) ∧ ll_CI L op ar ln ∧ ll_EN en ∧ ll_EB L ed ∧ (∀ j, j < 8 → lv j = 0) ∧ (∀ t, t < 4 → dp t = 0)
/-- accepted -/
def tk_G (L T : Nat) (u : St2) : Prop :=
  ∃ (cl lk : Int32) (op ar ln en so lv ed pa fp fc dp hd hc : Nat → Int32) (lev : Nat → Nat), u = (nI L, nI T, cl, 1, 0, lk, op, ar, ln, en, so, lv, ed, pa, fp, fc, dp, hd, hc) ∧ ll_CI L op ar ln ∧ ll_EN en ∧ (∀ j, j < 8 → lv j = nI (lev j) ∧ lev j ≤ 8) ∧ (∀ a b, a < L → b < L → ¬ ed (a * 8 + b) = 0 → lev a < lev b) ∧ tk_MI L T op ar ln en ed fp fc dp hd hc
theorem tk_stle (ln : Nat → Int32) : ∀ s, (tk_stl ln s).length ≤ s.length := by
  intro s
  induction s with
  | nil => exact Nat.le_refl _
  | cons y s ih =>
    obtain ⟨p, c⟩ := y
    by_cases h : c < (ln p).toNatClampNeg
    · have q : tk_stl ln ((p, c) :: s) = (p, c) :: s := if_pos h
      rw [q]
      exact Nat.le_refl _
    · have q : tk_stl ln ((p, c) :: s) = tk_stl ln s := if_neg h
      rw [q, List.length_cons]
      omega
section
variable {nl nt cl se vd lk : Int32} {op ar ln en so lv ed pa fp fc dp hd hc fp' fc' dp' hd' hc' : Nat → Int32}
theorem tk_lb (t : Nat) : ∀ k, (tk_T op ar ln en t k).1.length ≤ k + 1 := by
  intro k
  induction k with
  | zero => exact tk_stle ln [((en t).toNatClampNeg, 0)]
  | succ k ih =>
    show (tk_nx op ar ln (tk_T op ar ln en t k)).1.length ≤ k + 1 + 1
    generalize tk_T op ar ln en t k = x at ih
    obtain ⟨s, q⟩ := x
    cases s with
    | nil => exact Nat.zero_le _
    | cons y s =>
      obtain ⟨p, c⟩ := y
      have h : s.length + 1 ≤ k + 1 := ih
      have g1 := tk_stle ln ((p, c + 1) :: s)
      have g2 := tk_stle ln (((ar (p * 8 + c)).toNatClampNeg, 0) :: (p, c + 1) :: s)
      rw [List.length_cons] at g1
      rw [List.length_cons, List.length_cons] at g2
      by_cases o1 : op (p * 8 + c) = 1
      · have e : tk_nx op ar ln ((p, c) :: s, q) = (tk_stl ln ((p, c + 1) :: s), tk_up q (ar (p * 8 + c)).toNatClampNeg) := if_pos o1
        rw [e]
        show (tk_stl ln ((p, c + 1) :: s)).length ≤ k + 1 + 1
        omega
      · by_cases o2 : op (p * 8 + c) = 2
        · have e : tk_nx op ar ln ((p, c) :: s, q) = (tk_stl ln ((p, c + 1) :: s), tk_dn q (ar (p * 8 + c)).toNatClampNeg) := (if_neg o1).trans (if_pos o2)
          rw [e]
          show (tk_stl ln ((p, c + 1) :: s)).length ≤ k + 1 + 1
          omega
        · by_cases o3 : op (p * 8 + c) = 3
          · have e : tk_nx op ar ln ((p, c) :: s, q) = (tk_stl ln (((ar (p * 8 + c)).toNatClampNeg, 0) :: (p, c + 1) :: s), q) := (if_neg o1).trans ((if_neg o2).trans (if_pos o3))
            rw [e]
            show (tk_stl ln (((ar (p * 8 + c)).toNatClampNeg, 0) :: (p, c + 1) :: s)).length ≤ k + 1 + 1
            omega
          · have e : tk_nx op ar ln ((p, c) :: s, q) = (tk_stl ln ((p, c + 1) :: s), q) := (if_neg o1).trans ((if_neg o2).trans (if_neg o3))
            rw [e]
            show (tk_stl ln ((p, c + 1) :: s)).length ≤ k + 1 + 1
            omega
theorem tk_l8 {L T t k : Nat} (hk : k ≤ 600) (S : ll_TS T ln fp fc dp) (ht : t < T) (R : tk_TR L t (tk_T op ar ln en t k) fp fc dp hd hc) : (tk_T op ar ln en t k).1.length ≤ 8 := by
  have := tk_lb (op := op) (ar := ar) (ln := ln) (en := en) t k
  exact tk_len S ht (by omega) R
theorem tk_TR0 {t p m : Nat} (he : en t = nI p) (hp8 : p < 8) (hl : ln p = nI m) (hm : m ≤ 8) : upd dp t (nI (if 0 < m then 1 else 0)) t = nI (tk_T op ar ln en t 0).1.length ∧ tk_RS (upd fp (t * 8) (nI p)) (upd fc (t * 8) 0) (t * 8) (tk_T op ar ln en t 0).1 := by
  have e : (tk_T op ar ln en t 0).1 = tk_stl ln [(p, 0)] := by
    show tk_stl ln [((en t).toNatClampNeg, 0)] = _
    rw [he, nI_clamp (by omega)]
  have hn : (ln p).toNatClampNeg = m := by rw [hl]; exact nI_clamp (by omega)
  rw [e, pk_us]
  by_cases h : 0 < m
  · have q : tk_stl ln [(p, 0)] = [(p, 0)] := if_pos (by rw [hn]; exact h)
    rw [q, if_pos h]
    exact ⟨rfl, hp8, by omega, pk_us, pk_us, trivial⟩
  · have q : tk_stl ln [(p, 0)] = [] := if_neg (by rw [hn]; exact h)
    rw [q, if_neg h]
    exact ⟨rfl, trivial⟩
theorem tx_solo {L T t : Nat} (hL : L ≤ 8) (hT : T ≤ 4) (ht : t < T) (C : ll_CI L op ar ln) : ∀ (r k : Nat) (fp fc dp hd hc ed : Nat → Int32), k + r = 513 → ll_TS T ln fp fc dp → tk_TR L t (tk_T op ar ln en t k) fp fc dp hd hc → (∀ l, l < L → hd l = nI t ∨ (hd l = -1 ∧ hc l = 0)) → ll_EB L ed → (∀ j, j < k → tk_EC L op ar ed (tk_T op ar ln en t j)) →
    ∃ fp' fc' dp' hd' hc' ed' m, m ≤ 513 ∧ ll_TS T ln fp' fc' dp' ∧ ll_EB L ed' ∧ (∀ j, ¬ ed j = 0 → ¬ ed' j = 0) ∧ (∀ j, j < m → tk_EC L op ar ed' (tk_T op ar ln en t j)) ∧ (m ≤ 512 → (tk_T op ar ln en t m).1 = []) ∧ (∀ (post : Int32 → St2 → Prop) (n : Nat), r < n → post (nI m) (nI L, nt, cl, se, vd, lk, op, ar, ln, en, so, lv, ed', pa, fp', fc', dp', hd', hc') → wX_runAlone_11 post (nI t) n (nI k) (nI L) nt cl se vd lk op ar ln en so lv ed pa fp fc dp hd hc) := by
  have ht4 : t < 4 := by omega
  intro r
  induction r with
  | zero =>
    intro k fp fc dp hd hc ed hk S R K B E
    have e : k = 513 := by omega
    subst e
    refine ⟨fp, fc, dp, hd, hc, ed, 513, Nat.le_refl _, S, B, fun _ h => h, E, fun h => absurd h (by omega), fun post n hn hp => ?_⟩
    obtain ⟨n, rfl⟩ : ∃ m, n = m + 1 := ⟨n - 1, by omega⟩
    exact pk_lt 512 513 (fun _ => hp) (fun h => absurd h (by omega))
  | succ r ih =>
    intro k fp fc dp hd hc ed hk S R K B E
    have hlen := tk_l8 (by omega) S ht R
    by_cases z : (tk_T op ar ln en t k).1 = []
    · have hdp : dp t = nI 0 := by
        have := R.1
        rw [z] at this
        exact this
      refine ⟨fp, fc, dp, hd, hc, ed, k, by omega, S, B, fun _ h => h, E, fun _ => z, fun post n hn hp => ?_⟩
      obtain ⟨n, rfl⟩ : ∃ m, n = m + 1 := ⟨n - 1, by omega⟩
      exact pk_lt 512 k (fun h => absurd h (by omega)) (fun _ => lx_isDone ht4 hdp (by omega) (fun _ => br_f (by decide) hp) (fun h => absurd rfl h))
    · have hl0 : (tk_T op ar ln en t k).1.length ≠ 0 := fun q => z (List.eq_nil_of_length_eq_zero q)
      obtain ⟨ed1, B1, M1, E1, aX⟩ := tx_add (nt := nt) (cl := cl) (se := se) (vd := vd) (lk := lk) (en := en) (so := so) (lv := lv) (pa := pa) hL hT ht C S R hlen z B
      obtain ⟨fp1, fc1, dp1, hd1, hc1, S1, R1, _, ch, eX⟩ := tx_exec (nl := nI L) (nt := nt) (cl := cl) (se := se) (vd := vd) (lk := lk) (en := en) (so := so) (lv := lv) (ed := ed1) (pa := pa) hL hT ht C S R hlen (fun l => by have := tk_b (op := op) (ar := ar) (ln := ln) (en := en) t k l; omega) z (fun p c s a _ _ _ haL => K a haL)
      obtain ⟨fp', fc', dp', hd', hc', ed', m, hm, S', B', M', E', hz, gX⟩ := ih (k + 1) fp1 fc1 dp1 hd1 hc1 ed1 (by omega) S1 R1 (fun l hl => by
        rcases ch l hl with ⟨h1, h2⟩ | ⟨_, h⟩
        · rw [h1, h2]; exact K l hl
        · exact h) B1 (fun j hj => by
        by_cases x : j = k
        · rw [x]; exact E1
        · exact tk_ECm (E j (by omega)) M1)
      refine ⟨fp', fc', dp', hd', hc', ed', m, hm, S', B', fun j h => M' j (M1 j h), E', hz, fun post n hn hp => ?_⟩
      obtain ⟨n, rfl⟩ : ∃ m, n = m + 1 := ⟨n - 1, by omega⟩
      refine pk_lt 512 k (fun h => absurd h (by omega)) (fun _ => lx_isDone ht4 R.1 hlen (fun h => absurd h hl0) (fun _ => br_t rfl ?_))
      exact aX _ (eX _ (nm_r (nI_1 k) (gX post n (by omega) hp)))
theorem tx_alone {L T t : Nat} (hL : L ≤ 8) (hT : T ≤ 4) (ht : t < T) (C : ll_CI L op ar ln) (hen : ll_EN en) (S : ll_TS T ln fp fc dp) (B : ll_EB L ed) :
    ∃ fp' fc' dp' hd' hc' ed' m, m ≤ 513 ∧ ll_TS T ln fp' fc' dp' ∧ ll_EB L ed' ∧ (∀ j, ¬ ed j = 0 → ¬ ed' j = 0) ∧ (∀ j, j < m → tk_EC L op ar ed' (tk_T op ar ln en t j)) ∧ (m ≤ 512 → (tk_T op ar ln en t m).1 = []) ∧ (∀ (post : Int32 → St2 → Prop), post (nI m) (nI L, nt, cl, se, vd, lk, op, ar, ln, en, so, lv, ed', pa, fp', fc', dp', hd', hc') → wpX_runAlone post (nI L, nt, cl, se, vd, lk, op, ar, ln, en, so, lv, ed, pa, fp, fc, dp, hd, hc) (nI t)) := by
  obtain ⟨p, hp8, he⟩ := hen t (by omega)
  obtain ⟨m0, hm0, hl, _⟩ := C p hp8
  have R0 := tk_TR0 (op := op) (ar := ar) (fp := fp) (fc := fc) (dp := dp) he hp8 hl hm0
  have ne1 : ¬ (-1 : Int32) = nI t := ll_m1 t (by omega)
  obtain ⟨fp', fc', dp', hd', hc', ed', m, hm, S', B', M', E', hz, gX⟩ := tx_solo (nt := nt) (cl := cl) (se := se) (vd := vd) (lk := lk) (en := en) (so := so) (lv := lv) (pa := pa) hL hT ht C 513 0 _ _ _ (ll_fl L hd (-1)) (ll_fl L hc 0) ed (by omega) (ll_TSs S ht hp8 hl hm0) ⟨R0.1, R0.2, fun l hl => ⟨fun z => absurd z (Nat.lt_irrefl 0), fun _ => by rw [ll_fl_t hl]; exact ne1⟩⟩ (fun l hl => Or.inr ⟨ll_fl_t hl, ll_fl_t hl⟩) B (fun j hj => absurd hj (by omega))
  refine ⟨fp', fc', dp', hd', hc', ed', m, hm, S', B', M', E', hz, fun post hp => ?_⟩
  unfold wpX_runAlone
  exact lx_free_2 hL (lx_start_2 (by omega) he hp8 hl hm0 ⟨514, gX post 514 (by omega) hp⟩)
theorem tx_checks {L T : Nat} (hL : L ≤ 8) (hT : T ≤ 4) (C : ll_CI L op ar ln) (hen : ll_EN en) : ∀ (r k : Nat) (so fp fc dp hd hc ed : Nat → Int32), k + r = T → ll_TS T ln fp fc dp → ll_EB L ed → (∀ s, s < k → ∃ m, m ≤ 513 ∧ so s = nI m ∧ (∀ j, j < m → tk_EC L op ar ed (tk_T op ar ln en s j)) ∧ (m ≤ 512 → (tk_T op ar ln en s m).1 = [])) →
    ∃ so' fp' fc' dp' hd' hc' ed', ll_TS T ln fp' fc' dp' ∧ ll_EB L ed' ∧ (∀ s, s < T → ∃ m, m ≤ 513 ∧ so' s = nI m ∧ (∀ j, j < m → tk_EC L op ar ed' (tk_T op ar ln en s j)) ∧ (m ≤ 512 → (tk_T op ar ln en s m).1 = [])) ∧ (∀ (post : Int32 → St2 → Prop) (n : Nat), r < n → (∀ n', wX_check_14 post (n' + 1) (nI T) (nI L) (nI T) cl se vd lk op ar ln en so' lv ed' pa fp' fc' dp' hd' hc') → wX_check_14 post n (nI k) (nI L) (nI T) cl se vd lk op ar ln en so lv ed pa fp fc dp hd hc) := by
  intro r
  induction r with
  | zero =>
    intro k so fp fc dp hd hc ed hk S B hso
    have e : k = T := by omega
    subst e
    refine ⟨so, fp, fc, dp, hd, hc, ed, S, B, hso, fun post n hn hp => ?_⟩
    obtain ⟨n, rfl⟩ : ∃ m, n = m + 1 := ⟨n - 1, by omega⟩
    exact hp n
  | succ r ih =>
    intro k so fp fc dp hd hc ed hk S B hso
    have c1 : (nI k).toNatClampNeg = k := nI_clamp (by omega)
    obtain ⟨fp1, fc1, dp1, hd1, hc1, ed1, m1, hm1, S1, B1, M1, E1, z1, hX⟩ := tx_alone (t := k) (nt := nI T) (cl := cl) (se := se) (vd := vd) (lk := lk) (so := so) (lv := lv) (pa := pa) (hd := hd) (hc := hc) hL hT (by omega) C hen S B
    obtain ⟨so', fp', fc', dp', hd', hc', ed', S', B', hso', gX⟩ := ih (k + 1) (upd so k (nI m1)) fp1 fc1 dp1 hd1 hc1 ed1 (by omega) S1 B1 (fun s hs => by
      by_cases e : s = k
      · subst e
        exact ⟨m1, hm1, pk_us, E1, z1⟩
      · rw [pk_un e]
        obtain ⟨m, h1, h2, h3, h4⟩ := hso s (by omega)
        exact ⟨m, h1, h2, fun j hj => tk_ECm (h3 j hj) M1, h4⟩)
    refine ⟨so', fp', fc', dp', hd', hc', ed', S', B', hso', fun post n hn hp => ?_⟩
    obtain ⟨n, rfl⟩ : ∃ m, n = m + 1 := ⟨n - 1, by omega⟩
    refine pk_le T k (fun h => absurd h (by omega)) (fun _ => hX _ ?_)
    exact And.intro (vp_in_nI (by omega) (by decide)) (nm_r (e' := upd so k (nI m1)) (by rw [c1]) (nm_r (nI_1 k) (gX post n (by omega) hp)))
theorem tx_reset {L T : Nat} (hT : T ≤ 4) (C : ll_CI L op ar ln) (hen : ll_EN en) : ∀ (r k : Nat) (fp fc dp : Nat → Int32), k + r = T → (∀ s, s < k → ll_TO ln fp fc dp s ∧ dp s = nI (tk_T op ar ln en s 0).1.length ∧ tk_RS fp fc (s * 8) (tk_T op ar ln en s 0).1) → (∀ j, T ≤ j → j < 4 → dp j = 0) →
    ∃ fp' fc' dp', ll_TS T ln fp' fc' dp' ∧ (∀ s, s < T → dp' s = nI (tk_T op ar ln en s 0).1.length ∧ tk_RS fp' fc' (s * 8) (tk_T op ar ln en s 0).1) ∧ (∀ (post : St2 → Prop) (nl cl se vd lk : Int32) (so lv ed pa hd hc : Nat → Int32) (n : Nat), r < n → post (nl, nI T, cl, se, vd, lk, op, ar, ln, en, so, lv, ed, pa, fp', fc', dp', hd, hc) → wX_resetMachine_6 post n (nI k) nl (nI T) cl se vd lk op ar ln en so lv ed pa fp fc dp hd hc) := by
  intro r
  induction r with
  | zero =>
    intro k fp fc dp hk hs h0
    have e : k = T := by omega
    subst e
    refine ⟨fp, fc, dp, ⟨fun s h => (hs s h).1, h0⟩, fun s h => (hs s h).2, fun post nl cl se vd lk so lv ed pa hd hc n hn hp => ?_⟩
    obtain ⟨n, rfl⟩ : ∃ m, n = m + 1 := ⟨n - 1, by omega⟩
    exact pk_le k k (fun _ => hp) (fun h => absurd h (by omega))
  | succ r ih =>
    intro k fp fc dp hk hs h0
    obtain ⟨p, hp8, he⟩ := hen k (by omega)
    obtain ⟨m, hm, hl, _⟩ := C p hp8
    have R0 := tk_TR0 (op := op) (ar := ar) (fp := fp) (fc := fc) (dp := dp) he hp8 hl hm
    obtain ⟨fp', fc', dp', S, hR, hX⟩ := ih (k + 1) (upd fp (k * 8) (nI p)) (upd fc (k * 8) 0) (upd dp k (nI (if 0 < m then 1 else 0))) (by omega) (fun s hs' => by
        by_cases e : s = k
        · subst e
          exact ⟨ll_TOs hp8 hl hm, R0⟩
        · obtain ⟨a1, a2, a3⟩ := hs s (by omega)
          have hl1 : (tk_T op ar ln en s 0).1.length ≤ 1 := tk_stle ln [((en s).toNatClampNeg, 0)]
          exact ⟨ll_TOo a1 (fun i hi => ⟨pk_un (by omega), pk_un (by omega)⟩) (pk_un e), by rw [pk_un e]; exact a2, tk_RScg _ (fun i hi => ⟨pk_un (by omega), pk_un (by omega)⟩) a3⟩) (fun j h1 h2 => by
        rw [pk_un (by omega)]
        exact h0 j h1 h2)
    refine ⟨fp', fc', dp', S, hR, fun post nl cl se vd lk so lv ed pa hd hc n hn hp => ?_⟩
    obtain ⟨n, rfl⟩ : ∃ m, n = m + 1 := ⟨n - 1, by omega⟩
    exact pk_le T k (fun h => absurd h (by omega)) (fun _ => lx_start (by omega) he hp8 hl hm (nm_r (nI_1 k) (hX post nl cl se vd lk so lv ed pa hd hc n (by omega) hp)))
theorem tx_restart {L T : Nat} (hL : L ≤ 8) (hT : T ≤ 4) (C : ll_CI L op ar ln) (hen : ll_EN en) (S : ll_TS T ln fp fc dp) :
    ∃ fp' fc' dp', ll_TS T ln fp' fc' dp' ∧ (∀ s, s < T → dp' s = nI (tk_T op ar ln en s 0).1.length ∧ tk_RS fp' fc' (s * 8) (tk_T op ar ln en s 0).1) ∧ (∀ (post : St2 → Prop) (cl se vd lk : Int32) (so lv ed pa hd hc : Nat → Int32), post (nI L, nI T, cl, se, vd, lk, op, ar, ln, en, so, lv, ed, pa, fp', fc', dp', ll_fl L hd (-1), ll_fl L hc 0) → wpX_resetMachine post (nI L, nI T, cl, se, vd, lk, op, ar, ln, en, so, lv, ed, pa, fp, fc, dp, hd, hc)) := by
  obtain ⟨fp', fc', dp', S', hR, hX⟩ := tx_reset hT C hen T 0 fp fc dp (by omega) (fun s hs => absurd hs (by omega)) S.2
  refine ⟨fp', fc', dp', S', hR, fun post cl se vd lk so lv ed pa hd hc hp => ?_⟩
  unfold wpX_resetMachine
  refine lx_free hL ⟨T + 1, ?_⟩
  exact hX post _ _ _ _ _ _ _ _ _ _ _ (T + 1) (by omega) hp
theorem tk_MI0 {L T : Nat} (hT : T ≤ 4) (S : ll_TS T ln fp fc dp) (hR : ∀ s, s < T → dp s = nI (tk_T op ar ln en s 0).1.length ∧ tk_RS fp fc (s * 8) (tk_T op ar ln en s 0).1) (hS : ∀ t, t < T → ∃ n, n ≤ 512 ∧ (tk_T op ar ln en t n).1 = [] ∧ (∀ j, j < n → tk_EC L op ar ed (tk_T op ar ln en t j))) : tk_MI L T op ar ln en ed fp fc dp (ll_fl L hd (-1)) (ll_fl L hc 0) := by
  refine ⟨S, fun l hl => Or.inl ⟨ll_fl_t hl, ll_fl_t hl⟩, fun t ht => ?_⟩
  obtain ⟨n, h1, h2, h3⟩ := hS t ht
  refine ⟨0, n, Nat.zero_le _, h1, h2, h3, (hR t ht).1, (hR t ht).2, fun l hl => ⟨fun z => absurd z (Nat.lt_irrefl 0), fun _ => ?_⟩⟩
  rw [ll_fl_t hl]
  exact ll_m1 t (by omega)
end
theorem tx_check {post : Int32 → St2 → Prop} {L T : Nat} {u : St2} (hL2 : 2 ≤ L) (hL : L ≤ 8) (hT : T ≤ 4) (U : tk_U L T u) (h0 : ∀ u', tk_G L T u' → post 0 u') (h1 : ∀ r u', ¬ r = 0 → post r u') : wpX_check post u := by
  obtain ⟨cl, op, ar, ln, en, so, lv, ed, pa, fp, fc, dp, hd, hc, rfl, C, hen, B, hlv, hdp⟩ := U
  obtain ⟨so', fp', fc', dp', hd', hc', ed', S', B', hso, cX⟩ := tx_checks (cl := cl) (se := 1) (vd := -1) (lk := -1) (lv := lv) (pa := pa) hL hT C hen T 0 so fp fc dp hd hc ed (by omega) (ll_TS0 hT hdp) B (fun s hs => absurd hs (by omega))
  obtain ⟨fp2, fc2, dp2, S2, hR, rX⟩ := tx_restart hL hT C hen S'
  refine br_t rfl ⟨T + 1, cX _ (T + 1) (by omega) (fun n => ?_)⟩
  refine pk_le T T (fun _ => ?_) (fun h => absurd h (by omega))
  by_cases lg : ∃ s, s < T ∧ so' s = nI 513
  · refine lx_verL hT (fun s hs => ?_) lg ?_
    · obtain ⟨m, h1, h2, _⟩ := hso s hs
      exact ⟨m, h1, h2⟩
    · refine rX _ _ _ _ _ _ _ _ _ _ _ ?_
      exact h1 2 _ (by decide)
  · have hs : ∀ s, s < T → ∃ m, m ≤ 512 ∧ so' s = nI m ∧ (∀ j, j < m → tk_EC L op ar ed' (tk_T op ar ln en s j)) ∧ (tk_T op ar ln en s m).1 = [] := by
      intro s hs
      obtain ⟨m, hm, e, e2, e3⟩ := hso s hs
      have x : m ≠ 513 := fun x => lg ⟨s, hs, by rw [e, x]⟩
      exact ⟨m, by omega, e, e2, e3 (by omega)⟩
    refine lx_verN hL2 hL hT (fun s h => ?_) B' hlv (fun pa' l hl hP hlo => ?_) (fun pa' lv' lev' hac q1 q2 => ?_)
    · obtain ⟨m, a1, a2, _⟩ := hs s h
      exact ⟨m, a1, a2⟩
    · refine rX _ _ _ _ _ _ _ _ _ _ _ ?_
      exact h1 1 _ (by decide)
    · refine rX _ _ _ _ _ _ _ _ _ _ _ ?_
      refine h0 _ ⟨_, _, op, ar, ln, en, _, lv', ed', pa', fp2, fc2, dp2, _, _, lev', rfl, C, hen, fun j hj => ⟨q1 j hj, ?_⟩, fun a b ha hb he => ?_, tk_MI0 hT S2 hR (fun t ht => ?_)⟩
      · exact Nat.le_trans (q2.1 j) (Nat.le_trans (gr_cle _ L) hL)
      · have e : ll_E ed' a b := ⟨by omega, by omega, he⟩
        have g := gr_An hac hb
        exact q2.2.2.1 a b e (by omega)
      · obtain ⟨m, a1, a2, a3, a4⟩ := hs t ht
        exact ⟨m, a1, a4, a3⟩
end
section
/-! steps keep the picture; no cycle of waits -/
/-- what the chain from s has reached -/
def tk_CH (L T : Nat) (lev : Nat → Nat) (ed hd : Nat → Int32) (s : Nat) (r : Int32) : Prop :=
  r = -1 ∨ ∃ b1 u b, (∀ l, l < L → hd l = nI s → ¬ ed (l * 8 + b1) = 0) ∧ b1 < L ∧ u < T ∧ u ≠ s ∧ r = nI u ∧ b < L ∧ hd b = nI u ∧ lev b1 ≤ lev b
section
variable {nl nt cl se vd lk : Int32} {op ar ln en so lv ed pa fp fc dp hd hc fp' fc' dp' hd' hc' : Nat → Int32}
theorem tx_waitT {L T t : Nat} {x : List (Nat × Nat) × (Nat → Nat)} (hL : L ≤ 8) (hT : T ≤ 4) (ht : t < T) (C : ll_CI L op ar ln) (S : ll_TS T ln fp fc dp) (GL : ∀ l, l < L → (hd l = -1 ∧ hc l = 0) ∨ ∃ s, s < T ∧ hd l = nI s) (R : tk_TR L t x fp fc dp hd hc) (hlen : x.1.length ≤ 8) (hE : ¬ x.1 = [] → tk_EC L op ar ed x) :
    ∃ w : Int32, (w = -1 ∨ ∃ u b, u < T ∧ u ≠ t ∧ w = nI u ∧ b < L ∧ hd b = nI u ∧ ∀ l, l < L → hd l = nI t → ¬ ed (l * 8 + b) = 0) ∧ (w = -1 → ∀ p c s a, x.1 = (p, c) :: s → op (p * 8 + c) = 1 → ar (p * 8 + c) = nI a → a < L → hd a = nI t ∨ (hd a = -1 ∧ hc a = 0)) ∧ (∀ post : Int32 → Prop, post w → wpX_waitsFor post (nl, nI T, cl, 1, vd, lk, op, ar, ln, en, so, lv, ed, pa, fp, fc, dp, hd, hc) (nI t)) := by
  obtain ⟨st, q⟩ := x
  cases st with
  | nil =>
    have hdp : dp t = nI 0 := R.1
    exact ⟨-1, Or.inl rfl, fun _ p c s a e => by injection e, fun post hp => lx_waitD ht hT hdp hp⟩
  | cons y s =>
    obtain ⟨p, c⟩ := y
    have hdp : dp t = nI (s.length + 1) := R.1
    have hq := R.2.2
    have hln : s.length + 1 ≤ 8 := hlen
    have ht4 : t < 4 := by omega
    obtain ⟨he8, hF, m, h1, hep, hp8, h2, hl, hcm, hm⟩ := tk_top S ht hdp (by omega) R.2.1
    have hc8 : c < 8 := by omega
    obtain ⟨m', hm', hl', hcode⟩ := C p hp8
    have em : m' = m := (nI_eq (by omega) (by omega)).mp (hl'.symm.trans hl)
    subst em
    have uq : ∀ p' c' s', ((p, c) :: s, q).1 = (p', c') :: s' → p = p' ∧ c = c' := by
      intro p' c' s' e
      injection e with e1 e2
      injection e1 with e3 e4
      exact ⟨e3, e4⟩
    have neg : ¬ op (p * 8 + c) = 1 → ∃ w : Int32, (w = -1 ∨ ∃ u b, u < T ∧ u ≠ t ∧ w = nI u ∧ b < L ∧ hd b = nI u ∧ ∀ l, l < L → hd l = nI t → ¬ ed (l * 8 + b) = 0) ∧ (w = -1 → ∀ p' c' s' a, ((p, c) :: s, q).1 = (p', c') :: s' → op (p' * 8 + c') = 1 → ar (p' * 8 + c') = nI a → a < L → hd a = nI t ∨ (hd a = -1 ∧ hc a = 0)) ∧ (∀ post : Int32 → Prop, post w → wpX_waitsFor post (nl, nI T, cl, 1, vd, lk, op, ar, ln, en, so, lv, ed, pa, fp, fc, dp, hd, hc) (nI t)) := by
      intro ho1
      refine ⟨-1, Or.inl rfl, fun _ p' c' s' a e ho => ?_, fun post hp => lx_waitN ht hT he8 hdp h1 hp8 h2 hc8 ho1 hp⟩
      obtain ⟨u1, u2⟩ := uq p' c' s' e
      rw [← u1, ← u2] at ho
      exact absurd ho ho1
    rcases hcode c hcm with ho | ⟨ho, a, haL, ha⟩ | ⟨ho, _⟩ | ⟨ho, _⟩
    · exact neg (by rw [ho]; decide)
    · have ha8 : a < 8 := by omega
      have ua : ∀ p' c' s' a', ((p, c) :: s, q).1 = (p', c') :: s' → ar (p' * 8 + c') = nI a' → a' < L → a' = a := by
        intro p' c' s' a' e e2 e3
        obtain ⟨u1, u2⟩ := uq p' c' s' e
        rw [← u1, ← u2, ha, nI_eq (by omega) (by omega)] at e2
        exact e2.symm
      by_cases hn : hd a = nI t
      · refine ⟨-1, Or.inl rfl, fun _ p' c' s' a' e _ e2 e3 => ?_, fun post hp => lx_waitA ht hT he8 hdp h1 hp8 h2 hc8 ho ha ha8 (fun _ => hp) (fun z => absurd hn z)⟩
        rw [ua p' c' s' a' e e2 e3]
        exact Or.inl hn
      · refine ⟨hd a, ?_, fun z p' c' s' a' e _ e2 e3 => ?_, fun post hp => lx_waitA ht hT he8 hdp h1 hp8 h2 hc8 ho ha ha8 (fun z => absurd z hn) (fun _ => hp)⟩
        · rcases GL a haL with g | ⟨u, hu, g⟩
          · exact Or.inl g.1
          · refine Or.inr ⟨u, a, hu, fun x => hn (by rw [g, x]), g, haL, g, fun l hl hh => ?_⟩
            have q0 : q a = 0 := by
              by_cases z : q a = 0
              · exact z
              · exact absurd ((hq a haL).1 (Nat.pos_of_ne_zero z)).1 hn
            have ql : 0 < q l := by
              by_cases z : q l = 0
              · exact absurd hh ((hq l hl).2 z)
              · omega
            exact hE (by intro z; injection z) p c s a rfl ho ha haL q0 l hl ql
        · rw [ua p' c' s' a' e e2 e3]
          rcases GL a haL with g | ⟨u, hu, g⟩
          · exact Or.inr g
          · exact absurd (z.symm.trans g) (ll_m1 u (by omega))
    · exact neg (by rw [ho]; decide)
    · exact neg (by rw [ho]; decide)
theorem tk_kE {L t k n : Nat} (hkn : k ≤ n) (hend : (tk_T op ar ln en t n).1 = []) (hEC : ∀ j, j < n → tk_EC L op ar ed (tk_T op ar ln en t j)) : ¬ (tk_T op ar ln en t k).1 = [] → k < n ∧ tk_EC L op ar ed (tk_T op ar ln en t k) := by
  intro z
  have h : k ≠ n := fun e => z (by rw [e]; exact hend)
  exact ⟨by omega, hEC k (by omega)⟩
theorem tx_step {L T : Nat} (hL : L ≤ 8) (hT : T ≤ 4) (C : ll_CI L op ar ln) (M : tk_MI L T op ar ln en ed fp fc dp hd hc) (x : Int32) :
    ∃ r fp' fc' dp' hd' hc', tk_MI L T op ar ln en ed fp' fc' dp' hd' hc' ∧ (∀ post : Int32 → St2 → Prop, post r (nl, nI T, cl, 1, vd, lk, op, ar, ln, en, so, lv, ed, pa, fp', fc', dp', hd', hc') → wpX_step post (nl, nI T, cl, 1, vd, lk, op, ar, ln, en, so, lv, ed, pa, fp, fc, dp, hd, hc) x) := by
  rcases pk_ix x (n := T) (by omega) with hx | hx | ⟨t, ht, rfl⟩
  · exact ⟨3, fp, fc, dp, hd, hc, M, fun post hp => br_f ll_1n0 (lx_thr0 (Or.inl hx) (br_t rfl hp))⟩
  · exact ⟨3, fp, fc, dp, hd, hc, M, fun post hp => br_f ll_1n0 (lx_thr0 (Or.inr hx) (br_t rfl hp))⟩
  · obtain ⟨S, GL, TR⟩ := M
    obtain ⟨k, n, hkn, hn, hend, hEC, R⟩ := TR t ht
    have hlen := tk_l8 (by omega) S ht R
    have kE := tk_kE hkn hend hEC
    obtain ⟨w, hw, hfr, wX⟩ := tx_waitT (nl := nl) (cl := cl) (vd := vd) (lk := lk) (en := en) (so := so) (lv := lv) (pa := pa) hL hT ht C S GL R hlen (fun z => (kE z).2)
    by_cases z : (tk_T op ar ln en t k).1 = []
    · have hdp : dp t = nI 0 := by
        have := R.1
        rw [z] at this
        exact this
      exact ⟨2, fp, fc, dp, hd, hc, ⟨S, GL, TR⟩, fun post hp => br_f ll_1n0 (lx_thr1 ht hT (br_f ll_1n0 (lx_isDone (by omega) hdp (by omega) (fun _ => br_f ll_1n0 hp) (fun z => absurd rfl z))))⟩
    · have hl0 : (tk_T op ar ln en t k).1.length ≠ 0 := fun q => z (List.eq_nil_of_length_eq_zero q)
      by_cases hm1 : w = -1
      · obtain ⟨fp', fc', dp', hd', hc', S', R', oth, ch, eX⟩ := tx_exec_2 (nl := nl) (nt := nI T) (cl := cl) (se := 1) (vd := vd) (lk := lk) (en := en) (so := so) (lv := lv) (ed := ed) (pa := pa) hL hT ht C S R hlen (fun l => by have := tk_b (op := op) (ar := ar) (ln := ln) (en := en) t k l; omega) z (hfr hm1)
        subst hm1
        refine ⟨0, fp', fc', dp', hd', hc', ⟨S', fun l hl => ?_, fun s hs => ?_⟩, fun post hp => ?_⟩
        · rcases ch l hl with ⟨h1, h2⟩ | ⟨_, h⟩
          · rw [h1, h2]; exact GL l hl
          · rcases h with h | h
            · exact Or.inr ⟨t, ht, h⟩
            · exact Or.inl h
        · by_cases e : s = t
          · subst e
            exact ⟨k + 1, n, (kE z).1, hn, hend, hEC, R'⟩
          · obtain ⟨k2, n2, a1, a2, a3, a4, R2⟩ := TR s hs
            exact ⟨k2, n2, a1, a2, a3, a4, tk_TRo R2 (tk_l8 (by omega) S hs R2) e (by omega) (by omega) (oth s e) ch⟩
        · refine br_f ll_1n0 (lx_thr1 ht hT (br_f ll_1n0 (lx_isDone (by omega) R.1 hlen (fun q => absurd q hl0) (fun _ => br_t rfl ?_))))
          exact wX _ (br_t rfl (eX _ hp))
      · refine ⟨1, fp, fc, dp, hd, hc, ⟨S, GL, TR⟩, fun post hp => ?_⟩
        refine br_f ll_1n0 (lx_thr1 ht hT (br_f ll_1n0 (lx_isDone (by omega) R.1 hlen (fun q => absurd q hl0) (fun _ => br_t rfl ?_))))
        exact wX _ (br_f hm1 hp)
theorem tx_run {L T N : Nat} {v : Int32} (hL : L ≤ 8) (h1T : 1 ≤ T) (hT : T ≤ 4) (hN : N ≤ 1024) (C : ll_CI L op ar ln) : ∀ (m i : Nat) (c : Int32) (fp fc dp hd hc : Nat → Int32), i + m = N → tk_MI L T op ar ln en ed fp fc dp hd hc →
    ∃ c' fp' fc' dp' hd' hc', tk_MI L T op ar ln en ed fp' fc' dp' hd' hc' ∧ (∀ (post : Int32 → St2 → Prop) (n : Nat), m < n → post c' (nl, nI T, cl, 1, vd, lk, op, ar, ln, en, so, lv, ed, pa, fp', fc', dp', hd', hc') → wX_run_24 post v (nI N) n c (nI i) nl (nI T) cl 1 vd lk op ar ln en so lv ed pa fp fc dp hd hc) := by
  have hT0 : ¬ nI T = 0 := nI_ne0 (by omega) (by omega)
  have h16 : ¬ (16 : Int32) = 0 := by decide
  intro m
  induction m with
  | zero =>
    intro i c fp fc dp hd hc hi M
    have e : i = N := by omega
    subst e
    refine ⟨c, fp, fc, dp, hd, hc, M, fun post n hn hp => ?_⟩
    obtain ⟨n, rfl⟩ : ∃ m, n = m + 1 := ⟨n - 1, by omega⟩
    exact pk_le i i (fun _ => hp) (fun h => absurd h (by omega))
  | succ m ih =>
    intro i c fp fc dp hd hc hi M
    obtain ⟨r, fp1, fc1, dp1, hd1, hc1, M1, sX⟩ := tx_step (nl := nl) (cl := cl) (vd := vd) (lk := lk) (en := en) (so := so) (lv := lv) (ed := ed) (pa := pa) hL hT C M (ll_fld v (nI i) - ll_fld v (nI i) / nI T * nI T)
    by_cases hr : r = 0
    · obtain ⟨c', fp', fc', dp', hd', hc', M', gX⟩ := ih (i + 1) (c + 1) fp1 fc1 dp1 hd1 hc1 (by omega) M1
      refine ⟨c', fp', fc', dp', hd', hc', M', fun post n hn hp => ?_⟩
      obtain ⟨n, rfl⟩ : ∃ m, n = m + 1 := ⟨n - 1, by omega⟩
      refine pk_le N i (fun h => absurd h (by omega)) (fun _ => And.intro h16 (nm_r (e' := ll_fld v (nI i)) rfl ⟨hT0, sX _ ?_⟩))
      exact br_t hr (nm_e (nm_r (nI_1 i) (gX post n (by omega) hp)))
    · obtain ⟨c', fp', fc', dp', hd', hc', M', gX⟩ := ih (i + 1) c fp1 fc1 dp1 hd1 hc1 (by omega) M1
      refine ⟨c', fp', fc', dp', hd', hc', M', fun post n hn hp => ?_⟩
      obtain ⟨n, rfl⟩ : ∃ m, n = m + 1 := ⟨n - 1, by omega⟩
      refine pk_le N i (fun h => absurd h (by omega)) (fun _ => And.intro h16 (nm_r (e' := ll_fld v (nI i)) rfl ⟨hT0, sX _ ?_⟩))
      exact br_f hr (nm_r (nI_1 i) (gX post n (by omega) hp))
theorem tx_own {L T s : Nat} {lev : Nat → Nat} (hL : L ≤ 8) (hT : T ≤ 4) (hs : s < T) (C : ll_CI L op ar ln) (M : tk_MI L T op ar ln en ed fp fc dp hd hc) :
    ∃ w : Int32, tk_CH L T lev ed hd s w ∧ (∀ post : Int32 → Prop, post w → wpX_waitsFor post (nl, nI T, cl, 1, vd, lk, op, ar, ln, en, so, lv, ed, pa, fp, fc, dp, hd, hc) (nI s)) := by
  obtain ⟨S, GL, TR⟩ := M
  obtain ⟨k, n, hkn, hn, hend, hEC, R⟩ := TR s hs
  have hlen := tk_l8 (by omega) S hs R
  obtain ⟨w, hw, _, wX⟩ := tx_waitT (nl := nl) (cl := cl) (vd := vd) (lk := lk) (en := en) (so := so) (lv := lv) (pa := pa) hL hT hs C S GL R hlen (fun z => (tk_kE hkn hend hEC z).2)
  refine ⟨w, ?_, wX⟩
  rcases hw with h | ⟨u, b, h1, h2, h3, h4, h5, h6⟩
  · exact Or.inl h
  · exact Or.inr ⟨b, u, b, h6, h4, h1, h2, h3, h4, h5, Nat.le_refl _⟩
theorem tx_next {L T s : Nat} {lev : Nat → Nat} {r : Int32} (hL : L ≤ 8) (hT : T ≤ 4) (C : ll_CI L op ar ln) (M : tk_MI L T op ar ln en ed fp fc dp hd hc) (hlv : ∀ a b, a < L → b < L → ¬ ed (a * 8 + b) = 0 → lev a < lev b) (H : tk_CH L T lev ed hd s r) :
    ∃ w : Int32, tk_CH L T lev ed hd s w ∧ (∀ post : Int32 → Prop, post w → wpX_waitsFor post (nl, nI T, cl, 1, vd, lk, op, ar, ln, en, so, lv, ed, pa, fp, fc, dp, hd, hc) r) := by
  rcases H with rfl | ⟨b1, u, b, g1, g2, g3, g4, rfl, g5, g6, g7⟩
  · exact ⟨-1, Or.inl rfl, fun post hp => lx_wait0 (Or.inl (by decide)) hp⟩
  · obtain ⟨S, GL, TR⟩ := M
    obtain ⟨k, n, hkn, hn, hend, hEC, R⟩ := TR u g3
    have hlen := tk_l8 (by omega) S g3 R
    obtain ⟨w, hw, _, wX⟩ := tx_waitT (nl := nl) (cl := cl) (vd := vd) (lk := lk) (en := en) (so := so) (lv := lv) (pa := pa) hL hT g3 C S GL R hlen (fun z => (tk_kE hkn hend hEC z).2)
    refine ⟨w, ?_, wX⟩
    rcases hw with h | ⟨v, b', h1, h2, h3, h4, h5, h6⟩
    · exact Or.inl h
    · have l1 := hlv b b' g5 h4 (h6 b g5 g6)
      refine Or.inr ⟨b1, v, b', g1, g2, h1, fun e => ?_, h3, h4, h5, by omega⟩
      rw [e] at h5
      have l2 := hlv b' b1 h4 g2 (g1 b' h4 h5)
      omega
theorem tk_CHn {L T s : Nat} {lev : Nat → Nat} {r : Int32} (hT : T ≤ 4) (hs : s < T) (H : tk_CH L T lev ed hd s r) : ¬ r = nI s := by
  rcases H with rfl | ⟨b1, u, b, g1, g2, g3, g4, rfl, _⟩
  · exact ll_m1 s (by omega)
  · intro e
    rw [nI_eq (by omega) (by omega)] at e
    exact g4 e
theorem tx_chain {post : Int32 → Prop} {L T s : Nat} {lev : Nat → Nat} (hL : L ≤ 8) (hT : T ≤ 4) (hs : s < T) (C : ll_CI L op ar ln) (M : tk_MI L T op ar ln en ed fp fc dp hd hc) (hlv : ∀ a b, a < L → b < L → ¬ ed (a * 8 + b) = 0 → lev a < lev b) (hp : post 0) : ∀ (m n k : Nat) (r : Int32), k + m = T → m < n → tk_CH L T lev ed hd s r → wX_waitsForItself_8 post (nI s) nl (nI T) cl 1 vd lk op ar ln en so lv ed pa fp fc dp hd hc n r (nI k) := by
  intro m
  induction m with
  | zero =>
    intro n k r hk hn H
    obtain ⟨n, rfl⟩ : ∃ m, n = m + 1 := ⟨n - 1, by omega⟩
    exact pk_le T k (fun _ => br_f (tk_CHn hT hs H) hp) (fun h => absurd h (by omega))
  | succ m ih =>
    intro n k r hk hn H
    obtain ⟨n, rfl⟩ : ∃ m, n = m + 1 := ⟨n - 1, by omega⟩
    obtain ⟨w, H', wX⟩ := tx_next (nl := nl) (cl := cl) (vd := vd) (lk := lk) (so := so) (lv := lv) (pa := pa) hL hT C M hlv H
    exact pk_le T k (fun h => absurd h (by omega)) (fun _ => br_f (tk_CHn hT hs H) (wX _ (nm_r (nI_1 k) (ih n (k + 1) w (by omega) (by omega) H'))))
theorem tx_dead {post : Int32 → Prop} {L T : Nat} {lev : Nat → Nat} (hL : L ≤ 8) (hT : T ≤ 4) (C : ll_CI L op ar ln) (M : tk_MI L T op ar ln en ed fp fc dp hd hc) (hlv : ∀ a b, a < L → b < L → ¬ ed (a * 8 + b) = 0 → lev a < lev b) (hp : post 0) : ∀ (m n s : Nat), s + m = T → m < n → wX_deadlocked_2 post nl (nI T) cl 1 vd lk op ar ln en so lv ed pa fp fc dp hd hc n (nI s) := by
  intro m
  induction m with
  | zero =>
    intro n s hs hn
    obtain ⟨n, rfl⟩ : ∃ m, n = m + 1 := ⟨n - 1, by omega⟩
    exact pk_le T s (fun _ => hp) (fun h => absurd h (by omega))
  | succ m ih =>
    intro n s hs hn
    obtain ⟨n, rfl⟩ : ∃ m, n = m + 1 := ⟨n - 1, by omega⟩
    obtain ⟨w, H, wX⟩ := tx_own (lev := lev) (nl := nl) (cl := cl) (vd := vd) (lk := lk) (so := so) (lv := lv) (pa := pa) hL hT (show s < T by omega) C M
    refine pk_le T s (fun h => absurd h (by omega)) (fun _ => ?_)
    unfold wpX_waitsForItself
    refine wX _ ?_
    exact ⟨T, tx_chain hL hT (by omega) C M hlv (br_t rfl (nm_r (nI_1 s) (ih n (s + 1) (by omega) (by omega)))) (T - 1) T 1 w (by omega) (by omega) H⟩
theorem tx_c25 {post : Int32 → Prop} {J : Int32 → Prop} {L T s : Nat} {lev : Nat → Nat} (hL : L ≤ 8) (hT : T ≤ 4) (hs : s < T) (C : ll_CI L op ar ln) (M : tk_MI L T op ar ln en ed fp fc dp hd hc) (hlv : ∀ a b, a < L → b < L → ¬ ed (a * 8 + b) = 0 → lev a < lev b) (hJ : J (nI (s + 1))) : ∀ (m n k : Nat) (r : Int32), k + m = T → m < n → tk_CH L T lev ed hd s r → wL_calm_25 post J (nI T) (nI s) nl (nI T) cl 1 vd lk op ar ln en so lv ed pa fp fc dp hd hc n r (nI k) := by
  intro m
  induction m with
  | zero =>
    intro n k r hk hn H
    obtain ⟨n, rfl⟩ : ∃ m, n = m + 1 := ⟨n - 1, by omega⟩
    exact pk_le T k (fun _ => nm_r (nI_1 s) hJ) (fun h => absurd h (by omega))
  | succ m ih =>
    intro n k r hk hn H
    obtain ⟨n, rfl⟩ : ∃ m, n = m + 1 := ⟨n - 1, by omega⟩
    obtain ⟨w, H', wX⟩ := tx_next (nl := nl) (cl := cl) (vd := vd) (lk := lk) (so := so) (lv := lv) (pa := pa) hL hT C M hlv H
    refine pk_le T k (fun h => absurd h (by omega)) (fun _ => br_c (fun _ => nm_r (nI_1 s) hJ) (fun _ => br_c (fun _ => nm_r (nI_1 s) hJ) (fun _ => br_f (tk_CHn hT hs H) ?_)))
    exact wX _ (nm_r (nI_1 k) (ih n (k + 1) w (by omega) (by omega) H'))
theorem tx_c11 {post : Int32 → Prop} {L T : Nat} {lev : Nat → Nat} (hL : L ≤ 8) (hT : T ≤ 4) (C : ll_CI L op ar ln) (M : tk_MI L T op ar ln en ed fp fc dp hd hc) (hlv : ∀ a b, a < L → b < L → ¬ ed (a * 8 + b) = 0 → lev a < lev b) (hp : post 1) : ∀ (m n s : Nat), s + m = T → m < n → wL_calm_11 post (nI T) nl (nI T) cl 1 vd lk op ar ln en so lv ed pa fp fc dp hd hc n (nI s) := by
  intro m
  induction m with
  | zero =>
    intro n s hs hn
    obtain ⟨n, rfl⟩ : ∃ m, n = m + 1 := ⟨n - 1, by omega⟩
    exact pk_le T s (fun _ => hp) (fun h => absurd h (by omega))
  | succ m ih =>
    intro n s hs hn
    obtain ⟨n, rfl⟩ : ∃ m, n = m + 1 := ⟨n - 1, by omega⟩
    obtain ⟨w, H, wX⟩ := tx_own (lev := lev) (nl := nl) (cl := cl) (vd := vd) (lk := lk) (so := so) (lv := lv) (pa := pa) hL hT (show s < T by omega) C M
    refine pk_le T s (fun h => absurd h (by omega)) (fun _ => wX _ ?_)
    exact ⟨T + 1, tx_c25 hL hT (by omega) C M hlv (ih n (s + 1) (by omega) (by omega)) T (T + 1) 0 w (by omega) (by omega) H⟩
end
theorem tg_calm {post : Int32 → Prop} {L T : Nat} {u : St2} (hL : L ≤ 8) (hT : T ≤ 4) (G : tk_G L T u) (hp : post 1) : wpL_calm post u (nI T) := by
  obtain ⟨cl, lk, op, ar, ln, en, so, lv, ed, pa, fp, fc, dp, hd, hc, lev, rfl, C, hen, hl, hlv, M⟩ := G
  unfold wpL_calm
  exact ⟨T + 1, tx_dead hL hT C M hlv (br_t rfl ⟨T + 1, tx_c11 hL hT C M hlv hp T (T + 1) 0 (by omega) (by omega)⟩) T (T + 1) 0 (by omega) (by omega)⟩
theorem tg_step {post : Int32 → St2 → Prop} {L T : Nat} {u : St2} (hL : L ≤ 8) (hT : T ≤ 4) (G : tk_G L T u) (x : Int32) (hp : ∀ r u', tk_G L T u' → post r u') : wpX_step post u x := by
  obtain ⟨cl, lk, op, ar, ln, en, so, lv, ed, pa, fp, fc, dp, hd, hc, lev, rfl, C, hen, hl, hlv, M⟩ := G
  obtain ⟨r, fp', fc', dp', hd', hc', M', sX⟩ := tx_step hL hT C M x
  exact sX _ (hp _ _ ⟨cl, lk, op, ar, ln, en, so, lv, ed, pa, fp', fc', dp', hd', hc', lev, rfl, C, hen, hl, hlv, M'⟩)
theorem tg_run {post : Int32 → St2 → Prop} {L T : Nat} {u : St2} (hL : L ≤ 8) (h1T : 1 ≤ T) (hT : T ≤ 4) (G : tk_G L T u) (x y : Int32) (hp : ∀ r u', tk_G L T u' → post r u') : wpX_run post u x y := by
  obtain ⟨cl, lk, op, ar, ln, en, so, lv, ed, pa, fp, fc, dp, hd, hc, lev, rfl, C, hen, hl, hlv, M⟩ := G
  obtain ⟨N, _, hN, cN⟩ := ll_clamp y 0 1024 (by omega) (by decide)
  have cNX : ∀ post : Int32 → Prop, post (nI N) → wpX_clamp post () y 0 1024 := fun post hp => cN post hp
  obtain ⟨c', fp', fc', dp', hd', hc', M', sX⟩ := tx_run (v := x) hL h1T hT hN C N 0 0 fp fc dp hd hc (by omega) M
  refine br_f ll_1n0 ?_
  refine cNX _ ?_
  refine ⟨N + 1, sX _ (N + 1) (by omega) ?_⟩
  exact hp _ _ ⟨cl, lk, op, ar, ln, en, so, lv, ed, pa, fp', fc', dp', hd', hc', lev, rfl, C, hen, hl, hlv, M'⟩
theorem tg_restart {post : Int32 → St2 → Prop} {L T : Nat} {u : St2} (hL : L ≤ 8) (hT : T ≤ 4) (G : tk_G L T u) (hp : ∀ r u', tk_G L T u' → post r u') : wpX_restart post u := by
  obtain ⟨cl, lk, op, ar, ln, en, so, lv, ed, pa, fp, fc, dp, hd, hc, lev, rfl, C, hen, hl, hlv, M⟩ := G
  obtain ⟨fp2, fc2, dp2, S2, hR, rX⟩ := tx_restart hL hT C hen M.1
  refine br_f ll_1n0 ?_
  refine rX _ _ _ _ _ _ _ _ _ _ _ ?_
  refine hp _ _ ⟨cl, lk, op, ar, ln, en, so, lv, ed, pa, fp2, fc2, dp2, _, _, lev, rfl, C, hen, hl, hlv, tk_MI0 hT S2 hR (fun t ht => ?_)⟩
  obtain ⟨k, n, _, a2, a3, a4, _⟩ := M.2.2 t ht
  exact ⟨n, a2, a3, a4⟩
theorem tg_order {post : Int32 → Prop} {L T a b : Nat} {u : St2} (hL : L ≤ 8) (G : tk_G L T u) (ha : a < L) (hb : b < L) (h0 : post 0) (h1 : (∀ post' : Int32 → Int32 → Prop, (∀ x y, x < y → post' x y) → wpX_level (fun r => wpX_level (fun r' => post' r r') u (nI b)) u (nI a)) → post 1) : wpX_order post u (nI a) (nI b) := by
  obtain ⟨cl, lk, op, ar, ln, en, so, lv, ed, pa, fp, fc, dp, hd, hc, lev, rfl, C, hen, hl, hlv, M⟩ := G
  have c1 : (nI (a * 8 + b)).toNatClampNeg = a * 8 + b := nI_clamp (by omega)
  have ca : (nI a).toNatClampNeg = a := nI_clamp (by omega)
  have cb : (nI b).toNatClampNeg = b := nI_clamp (by omega)
  refine br_f ll_1n0 (lx_lock1 ha hL (br_f ll_1n0 (lx_lock1 hb hL (br_f ll_1n0 ?_))))
  rw [ll_cel a b, c1]
  refine ⟨vp_in_nI (by omega) (by decide), br_c (fun _ => h0) (fun z => h1 (fun post' hp => ?_))⟩
  refine br_t rfl (lx_lock1 ha hL (br_f ll_1n0 ⟨vp_in_nI (by omega) (by decide), ?_⟩))
  refine br_t rfl (lx_lock1 hb hL (br_f ll_1n0 ⟨vp_in_nI (by omega) (by decide), ?_⟩))
  rw [ca, cb, (hl a (by omega)).1, (hl b (by omega)).1]
  have h8 := (hl b (by omega)).2
  exact hp _ _ (nI_lt (hlv a b ha hb z) (by omega))
end
section
/-! the law -/
section
variable {nl nt cl se vd lk : Int32} {op ar ln en so lv ed pa fp fc dp hd hc fp' fc' dp' hd' hc' : Nat → Int32}
theorem tl_cell {post : Int32 → Prop} {N j : Nat} {xs : Nat → Int32} {x : Int32} (hN : N ≤ 260) (hx : x = nI j) (hj : j < 2 ^ 31) (h : ∀ v, post v) : wpL_cell post N xs () x := by
  subst hx
  exact pk_le N j (fun _ => h 0) (fun hlt => And.intro (vp_in_nI hlt (by omega)) (h _))
theorem tl_in2 {post : St2 → Prop} {mc ms kc ks : Nat} (hp : post (nl, nt, cl, se, vd, lk, op, ar, ln, ll_cp 4 nI en, so, lv, ed, pa, fp, fc, dp, hd, hc)) : ∀ (r n k : Nat), k + r = 4 → r < n → wX_init_148 post mc ms kc ks nl nt cl se vd lk n (nI k) op ar ln (ll_cp k nI en) so lv ed pa fp fc dp hd hc := by
  intro r
  induction r with
  | zero =>
    intro n k hk hn
    obtain ⟨n, rfl⟩ : ∃ m, n = m + 1 := ⟨n - 1, by omega⟩
    have e : k = 4 := by omega
    subst e
    exact pk_le 4 4 (fun _ => hp) (fun h => absurd h (by omega))
  | succ r ih =>
    intro n k hk hn
    obtain ⟨n, rfl⟩ : ∃ m, n = m + 1 := ⟨n - 1, by omega⟩
    have c1 : (nI k).toNatClampNeg = k := nI_clamp (by omega)
    have q := ih n (k + 1) (by omega) (by omega)
    exact pk_le 4 k (fun h => absurd h (by omega)) (fun _ => And.intro (vp_in_nI (by omega) (by decide)) (nm_r (e' := ll_cp (k + 1) nI en) (by rw [c1, ll_cp_s]) (nm_r (nI_1 k) q)))
theorem tl_cl {post : Int32 → Prop} {a b j : Nat} (h1 : a ≤ j) (h2 : j ≤ b) (hb : b < 2 ^ 31) (hp : post (nI j)) : wpX_clamp post () (nI j) (nI a) (nI b) :=
  br_t (nI_le h1 (by omega)) (br_t (nI_le h2 hb) hp)
theorem tl_init {post : St2 → Prop} {L T : Nat} (hL2 : 2 ≤ L) (hL : L ≤ 8) (hT1 : 1 ≤ T) (hT : T ≤ 4) (hp : ∀ u, tk_U L T u → post u) : wpX_init post 13 364 (0, 0, 0, 0, 0, 0) (nI L) (nI T) := by
  refine And.intro (by decide) (And.intro (by decide) (And.intro (by decide) (And.intro (by decide) (And.intro (by decide) (And.intro (by decide) (And.intro (by decide) (And.intro (by decide) (And.intro (by decide) (And.intro (by decide) (And.intro (by decide) (And.intro (by decide) (And.intro (by decide) (And.intro (by decide) (And.intro (by decide) (And.intro (by decide) (And.intro (by decide) (And.intro (by decide) (And.intro (by decide) (And.intro (by decide) (And.intro (by decide) (And.intro (by decide) (And.intro (by decide) (And.intro (by decide) (And.intro (by decide) (And.intro (by decide) (?_))))))))))))))))))))))))))
  refine tl_cl (a := 2) (b := 8) hL2 hL (by decide) ?_
  refine tl_cl (a := 1) (b := 4) hT1 hT (by decide) ?_
  refine ⟨5, ?_⟩
  refine ek_v (P := fun z => wX_init_148 _ 13 364 13 364 (nI L) (nI T) 0 0 (-1) (-1) 5 0 (fun _ => 0) (fun _ => 0) (fun _ => 0) z (fun _ => 0) (fun _ => 0) (fun _ => 0) (fun _ => 0) (fun _ => 0) (fun _ => 0) (fun _ => 0) (fun _ => 0) (fun _ => 0)) (ll_cp_0 nI (fun _ => 0)).symm ?_
  refine tl_in2 ?_ 4 5 0 (by omega) (by omega)
  refine hp _ ⟨0, _, _, _, _, _, _, _, _, _, _, _, _, _, rfl, ?_, ?_, ?_, fun _ _ => rfl, fun _ _ => rfl⟩
  · exact fun p _ => ⟨0, by omega, rfl, fun i hi => absurd hi (by omega)⟩
  · exact fun t ht => ⟨t, by omega, ll_cp_t ht⟩
  · exact ⟨ll_B0, fun a b _ _ h => absurd rfl h⟩
end
theorem tg_emit {post : Int32 → St2 → Prop} {L T : Nat} {u : St2} (hL : L ≤ 8) (U : tk_U L T u) (v1 v2 v3 : Int32) (hp : ∀ r u', tk_U L T u' → post r u') : wpX_emit post u v1 v2 v3 := by
  have U0 := U
  obtain ⟨cl, op, ar, ln, en, so, lv, ed, pa, fp, fc, dp, hd, hc, rfl, C, hen, B, hlv, hdp⟩ := U
  rcases pk_ix v1 (n := 8) (by decide) with h1 | h1 | ⟨p, hp8, rfl⟩
  · exact br_t rfl (br_t h1 (br_t rfl (hp _ _ U0)))
  · exact br_t rfl (br_f (ll_ge0 (by decide) h1) (br_t h1 (br_t rfl (hp _ _ U0))))
  · have q1 : ¬ nI p < 0 := nI_pos (by omega)
    have q2 : ¬ 8 ≤ nI p := nI_ge (b := 8) hp8 (by decide)
    by_cases h2 : v2 < 0
    · exact br_t rfl (br_f q1 (br_f q2 (br_f ll_1n0 (br_t h2 (hp _ _ U0)))))
    · by_cases h3 : v2 ≤ 3
      · obtain ⟨n, hn8, hl, _⟩ := C p hp8
        have go : ∀ a, (v2 = 0 ∨ (v2 = 1 ∧ ∃ b, b < L ∧ a = nI b) ∨ (v2 = 2 ∧ ∃ b, b < L ∧ a = nI b) ∨ (v2 = 3 ∧ ∃ b, p < b ∧ b < 8 ∧ a = nI b)) → ((v2 = 0 ∧ a = 0) ∨ (¬ v2 = 0 ∧ a = v3)) → (∀ post' : Int32 → Prop, post' 1 → wpX_argumentFits post' (nI L, nI T, cl, 0, -1, -1, op, ar, ln, en, so, lv, ed, pa, fp, fc, dp, hd, hc) (nI p) v2 v3) → wpX_emit post (nI L, nI T, cl, 0, -1, -1, op, ar, ln, en, so, lv, ed, pa, fp, fc, dp, hd, hc) (nI p) v2 v3 := by
          intro a hok hoa hfit
          refine lx_em (a := a) hp8 hl hn8 h2 h3 hfit hoa (fun _ => hp _ _ U0) (fun z1 _ => hp _ _ ?_)
          exact ⟨_, _, _, _, _, _, _, _, _, _, _, _, _, _, rfl, ll_CIu C hp8 hl z1 hok, hen, B, hlv, hdp⟩
        have no : (∀ post' : Int32 → Prop, post' 0 → wpX_argumentFits post' (nI L, nI T, cl, 0, -1, -1, op, ar, ln, en, so, lv, ed, pa, fp, fc, dp, hd, hc) (nI p) v2 v3) → wpX_emit post (nI L, nI T, cl, 0, -1, -1, op, ar, ln, en, so, lv, ed, pa, fp, fc, dp, hd, hc) (nI p) v2 v3 := by
          intro hfit
          refine br_t rfl (br_f q1 (br_f q2 (br_f ll_1n0 (br_f h2 (br_t h3 ?_)))))
          exact hfit _ (br_t rfl (hp _ _ U0))
        rcases ll_o4 h2 h3 with rfl | rfl | rfl | rfl
        · exact go 0 (Or.inl rfl) (Or.inl ⟨rfl, rfl⟩) (fun post' hp => br_t rfl hp)
        · rcases pk_ix v3 (n := L) (by omega) with g | g | ⟨b, hb, rfl⟩
          · exact no (fun post' hp => br_f (by decide) (br_f (by decide) (lx_lock0 (Or.inl g) ⟨rfl, hp⟩)))
          · exact no (fun post' hp => br_f (by decide) (br_f (by decide) (lx_lock0 (Or.inr g) ⟨rfl, hp⟩)))
          · exact go (nI b) (Or.inr (Or.inl ⟨rfl, b, hb, rfl⟩)) (Or.inr ⟨by decide, rfl⟩) (fun post' hp => br_f (by decide) (br_f (by decide) (lx_lock1 hb hL ⟨rfl, hp⟩)))
        · rcases pk_ix v3 (n := L) (by omega) with g | g | ⟨b, hb, rfl⟩
          · exact no (fun post' hp => br_f (by decide) (br_f (by decide) (lx_lock0 (Or.inl g) ⟨rfl, hp⟩)))
          · exact no (fun post' hp => br_f (by decide) (br_f (by decide) (lx_lock0 (Or.inr g) ⟨rfl, hp⟩)))
          · exact go (nI b) (Or.inr (Or.inr (Or.inl ⟨rfl, b, hb, rfl⟩))) (Or.inr ⟨by decide, rfl⟩) (fun post' hp => br_f (by decide) (br_f (by decide) (lx_lock1 hb hL ⟨rfl, hp⟩)))
        · by_cases g : v3 ≤ nI p
          · exact no (fun post' hp => br_f (by decide) (br_t rfl (br_t g hp)))
          · by_cases g8 : 8 ≤ v3
            · exact no (fun post' hp => br_f (by decide) (br_t rfl (br_f g (br_t g8 hp))))
            · have g0 : ¬ v3 < 0 := fun q => g (Int32.le_of_lt (Int32.lt_of_lt_of_le q (nI_pos' (by omega))))
              obtain ⟨b, hb, rfl⟩ := ll_ix (n := 8) g0 g8 (by decide)
              have hpb : p < b := by
                rw [nI_leI (by omega) (by omega)] at g
                omega
              exact go (nI b) (Or.inr (Or.inr (Or.inr ⟨rfl, b, hpb, hb, rfl⟩))) (Or.inr ⟨by decide, rfl⟩) (fun post' hp => br_f (by decide) (br_t rfl (br_f g (br_f g8 hp))))
      · exact br_t rfl (br_f q1 (br_f q2 (br_f ll_1n0 (br_f h2 (br_f h3 (hp _ _ U0))))))
theorem tg_setEntry {post : Int32 → St2 → Prop} {L T : Nat} {u : St2} (hT : T ≤ 4) (U : tk_U L T u) (v1 v2 : Int32) (hp : ∀ r u', tk_U L T u' → post r u') : wpX_setEntry post u v1 v2 := by
  have U0 := U
  obtain ⟨cl, op, ar, ln, en, so, lv, ed, pa, fp, fc, dp, hd, hc, rfl, C, hen, B, hlv, hdp⟩ := U
  rcases pk_ix v1 (n := T) (by omega) with h1 | h1 | ⟨t, ht, rfl⟩
  · exact br_t rfl (lx_thr0 (Or.inl h1) (br_t rfl (hp _ _ U0)))
  · exact br_t rfl (lx_thr0 (Or.inr h1) (br_t rfl (hp _ _ U0)))
  · rcases pk_ix v2 (n := 8) (by decide) with h2 | h2 | ⟨p, hp8, rfl⟩
    · exact br_t rfl (lx_thr1 ht hT (br_f ll_1n0 (br_t h2 (br_t rfl (hp _ _ U0)))))
    · exact br_t rfl (lx_thr1 ht hT (br_f ll_1n0 (br_f (ll_ge0 (by decide) h2) (br_t h2 (br_t rfl (hp _ _ U0))))))
    · have c1 : (nI t).toNatClampNeg = t := nI_clamp (by omega)
      refine br_t rfl (lx_thr1 ht hT (br_f ll_1n0 (br_f (nI_pos (by omega)) (br_f (nI_ge (b := 8) hp8 (by decide)) (br_f ll_1n0 ⟨vp_in_nI (by omega) (by decide), nm_r (e' := upd en t (nI p)) (by rw [c1]) (hp _ _ ?_)⟩)))))
      refine ⟨_, _, _, _, _, _, _, _, _, _, _, _, _, _, rfl, C, fun s hs => ?_, B, hlv, hdp⟩
      by_cases e : s = t
      · rw [e, pk_us]
        exact ⟨p, hp8, rfl⟩
      · rw [pk_un e]
        exact hen s hs
section
variable {nl nt cl se vd lk : Int32} {op ar ln en so lv ed pa fp fc dp hd hc fp' fc' dp' hd' hc' : Nat → Int32}
theorem tl_415 {post : Int32 → Prop} {N L T o : Nat} {xs : Nat → Int32} {x5 : Int32} {kc ks : Nat} {J : Int32 → Int32 → Int32 → Int32 → Int32 → Int32 → Int32 → Int32 → (Nat → Int32) → (Nat → Int32) → (Nat → Int32) → (Nat → Int32) → (Nat → Int32) → (Nat → Int32) → (Nat → Int32) → (Nat → Int32) → (Nat → Int32) → (Nat → Int32) → (Nat → Int32) → (Nat → Int32) → (Nat → Int32) → Prop} (hL : L ≤ 8) (hT : T ≤ 4) (G : tk_G L T (nl, nt, cl, se, vd, lk, op, ar, ln, en, so, lv, ed, pa, fp, fc, dp, hd, hc)) (hJ : J x5 (nI (o + 1)) nl nt cl se vd lk op ar ln en so lv ed pa fp fc dp hd hc) : wL_law_415 post N xs J (nI T) x5 (nI o) kc ks nl nt cl se vd lk op ar ln en so lv ed pa fp fc dp hd hc := by
  refine nm_r (nI_1 o) ?_
  exact tg_calm hL hT G (br_f ll_1n0 hJ)
theorem tl_401 {post : Int32 → Prop} {N L T o p : Nat} {xs : Nat → Int32} {x10 : Int32} {kc ks : Nat} {J : Int32 → Int32 → Int32 → Int32 → Int32 → Int32 → Int32 → Int32 → (Nat → Int32) → (Nat → Int32) → (Nat → Int32) → (Nat → Int32) → (Nat → Int32) → (Nat → Int32) → (Nat → Int32) → (Nat → Int32) → (Nat → Int32) → (Nat → Int32) → (Nat → Int32) → (Nat → Int32) → (Nat → Int32) → Prop} (hL : L ≤ 8) (hT : T ≤ 4) (G : tk_G L T (nl, nt, cl, se, vd, lk, op, ar, ln, en, so, lv, ed, pa, fp, fc, dp, hd, hc)) (hJ : ∀ nl nt cl se vd lk op ar ln en so lv ed pa fp fc dp hd hc, tk_G L T (nl, nt, cl, se, vd, lk, op, ar, ln, en, so, lv, ed, pa, fp, fc, dp, hd, hc) → J (nI (p + 1)) (nI (o + 1)) nl nt cl se vd lk op ar ln en so lv ed pa fp fc dp hd hc) : wL_law_401 post N xs J (nI T) (nI p) (nI o) x10 kc ks nl nt cl se vd lk op ar ln en so lv ed pa fp fc dp hd hc := by
  have h0 : ¬ nI T + 1 = 0 := by
    rw [nI_1]
    exact nI_ne0 (by omega) (by omega)
  refine And.intro h0 (tg_step hL hT G _ (fun r u' G' => ?_))
  obtain ⟨b1, b2, b3, b4, b5, b6, b7, b8, b9, b10, b11, b12, b13, b14, b15, b16, b17, b18, b19⟩ := u'
  exact nm_r (nI_1 p) (tl_415 hL hT G' (hJ _ _ _ _ _ _ _ _ _ _ _ _ _ _ _ _ _ _ _ G'))
theorem tl_307 {post : Int32 → Prop} {N L T : Nat} {xs : Nat → Int32} {kc ks : Nat} (hN : N ≤ 260) (hL : L ≤ 8) (hT1 : 1 ≤ T) (hT : T ≤ 4) (hp : post 1) : ∀ (m n o p : Nat) (nl nt cl se vd lk : Int32) (op ar ln en so lv ed pa fp fc dp hd hc : Nat → Int32), o + m = 300 → m < n → p ≤ 100 + 2 * o → tk_G L T (nl, nt, cl, se, vd, lk, op, ar, ln, en, so, lv, ed, pa, fp, fc, dp, hd, hc) → wL_law_307 post N xs (nI T) kc ks n (nI p) (nI o) nl nt cl se vd lk op ar ln en so lv ed pa fp fc dp hd hc := by
  intro m
  induction m with
  | zero =>
    intro n o p nl nt cl se vd lk op ar ln en so lv ed pa fp fc dp hd hc ho hn hpp G
    obtain ⟨n, rfl⟩ : ∃ m, n = m + 1 := ⟨n - 1, by omega⟩
    exact pk_le N p (fun _ => hp) (fun _ => pk_le 300 o (fun _ => hp) (fun h => absurd h (by omega)))
  | succ m ih =>
    intro n o p nl nt cl se vd lk op ar ln en so lv ed pa fp fc dp hd hc ho hn hpp G
    obtain ⟨n, rfl⟩ : ∃ m, n = m + 1 := ⟨n - 1, by omega⟩
    have k1 : ∀ nl nt cl se vd lk op ar ln en so lv ed pa fp fc dp hd hc, tk_G L T (nl, nt, cl, se, vd, lk, op, ar, ln, en, so, lv, ed, pa, fp, fc, dp, hd, hc) → wL_law_307 post N xs (nI T) kc ks n (nI (p + 1)) (nI (o + 1)) nl nt cl se vd lk op ar ln en so lv ed pa fp fc dp hd hc := fun nl nt cl se vd lk op ar ln en so lv ed pa fp fc dp hd hc G' => ih n (o + 1) (p + 1) nl nt cl se vd lk op ar ln en so lv ed pa fp fc dp hd hc (by omega) (by omega) (by omega) G'
    refine pk_le N p (fun _ => hp) (fun _ => pk_le 300 o (fun h => absurd h (by omega)) (fun _ => tl_cell hN rfl (by omega) (fun v => nm_e (nm_e (br_c (fun _ => ?_) (fun _ => br_c (fun _ => br_c (fun _ => ?_) (fun _ => ?_)) (fun _ => ?_)))))))
    · refine tl_cell hN (nI_1 p) (by omega) (fun v2 => ?_)
      refine tg_run hL hT1 hT G _ _ (fun r u' G' => ?_)
      obtain ⟨b1, b2, b3, b4, b5, b6, b7, b8, b9, b10, b11, b12, b13, b14, b15, b16, b17, b18, b19⟩ := u'
      exact nm_r (nI_add p 2) (tl_415 hL hT G' (ih n (o + 1) (p + 2) _ _ _ _ _ _ _ _ _ _ _ _ _ _ _ _ _ _ _ (by omega) (by omega) (by omega) G'))
    · refine tg_restart hL hT G (fun r u' G' => ?_)
      obtain ⟨b1, b2, b3, b4, b5, b6, b7, b8, b9, b10, b11, b12, b13, b14, b15, b16, b17, b18, b19⟩ := u'
      exact nm_r (nI_1 p) (tl_415 hL hT G' (k1 _ _ _ _ _ _ _ _ _ _ _ _ _ _ _ _ _ _ _ G'))
    · exact tl_401 hL hT G k1
    · exact tl_401 hL hT G k1
theorem tl_248 {post : Int32 → Prop} {N L T a : Nat} {xs : Nat → Int32} {x2 x5 : Int32} {kc ks : Nat} {J : Int32 → Prop} (hL : L ≤ 8) (ha : a < L) (G : tk_G L T (nl, nt, cl, se, vd, lk, op, ar, ln, en, so, lv, ed, pa, fp, fc, dp, hd, hc)) (hJ : J (nI (a + 1))) : ∀ (m n b : Nat), b + m = L → m < n → wL_law_248 post N xs J (nI L) x2 x5 (nI a) kc ks nl nt cl se vd lk op ar ln en so lv ed pa fp fc dp hd hc n (nI b) := by
  intro m
  induction m with
  | zero =>
    intro n b hb hn
    obtain ⟨n, rfl⟩ : ∃ m, n = m + 1 := ⟨n - 1, by omega⟩
    exact pk_le L b (fun _ => nm_r (nI_1 a) hJ) (fun h => absurd h (by omega))
  | succ m ih =>
    intro n b hb hn
    obtain ⟨n, rfl⟩ : ∃ m, n = m + 1 := ⟨n - 1, by omega⟩
    have k1 := ih n (b + 1) (by omega) (by omega)
    refine pk_le L b (fun h => absurd h (by omega)) (fun _ => tg_order hL G ha (by omega) (br_t rfl (nm_r (nI_1 b) k1)) (fun h => br_f ll_1n0 ?_))
    exact h _ (fun x y hxy => br_t hxy (nm_r (nI_1 b) k1))
theorem tl_239 {post : Int32 → Prop} {N L T : Nat} {xs : Nat → Int32} {p : Nat} {kc ks : Nat} (hN : N ≤ 260) (hL : L ≤ 8) (hT1 : 1 ≤ T) (hT : T ≤ 4) (hp100 : p ≤ 100) (G : tk_G L T (nl, nt, cl, se, vd, lk, op, ar, ln, en, so, lv, ed, pa, fp, fc, dp, hd, hc)) (hp : post 1) : ∀ (m n a : Nat), a + m = L → m < n → wL_law_239 post N xs (nI L) (nI T) (nI p) kc ks nl nt cl se vd lk op ar ln en so lv ed pa fp fc dp hd hc n (nI a) := by
  intro m
  induction m with
  | zero =>
    intro n a ha hn
    obtain ⟨n, rfl⟩ : ∃ m, n = m + 1 := ⟨n - 1, by omega⟩
    refine pk_le L a (fun _ => ?_) (fun h => absurd h (by omega))
    exact tg_calm hL hT G (br_f ll_1n0 ⟨301, tl_307 hN hL hT1 hT hp 300 301 0 p _ _ _ _ _ _ _ _ _ _ _ _ _ _ _ _ _ _ _ (by omega) (by omega) (by omega) G⟩)
  | succ m ih =>
    intro n a ha hn
    obtain ⟨n, rfl⟩ : ∃ m, n = m + 1 := ⟨n - 1, by omega⟩
    refine pk_le L a (fun h => absurd h (by omega)) (fun _ => ?_)
    exact ⟨L + 1, tl_248 hL (by omega) G (ih n (a + 1) (by omega) (by omega)) L (L + 1) 0 (by omega) (by omega)⟩
theorem tl_199 {post : Int32 → Prop} {N L T i : Nat} {xs : Nat → Int32} {x1 x2 x4 x5 x8 x9 x11 : Int32} {kc ks : Nat} {J : Int32 → Int32 → Int32 → Int32 → Int32 → Int32 → Int32 → (Nat → Int32) → (Nat → Int32) → (Nat → Int32) → (Nat → Int32) → (Nat → Int32) → (Nat → Int32) → (Nat → Int32) → (Nat → Int32) → (Nat → Int32) → (Nat → Int32) → (Nat → Int32) → (Nat → Int32) → (Nat → Int32) → Prop} (hL : L ≤ 8) (U : tk_U L T (nl, nt, cl, se, vd, lk, op, ar, ln, en, so, lv, ed, pa, fp, fc, dp, hd, hc)) (hJ : ∀ nl nt cl se vd lk op ar ln en so lv ed pa fp fc dp hd hc, tk_U L T (nl, nt, cl, se, vd, lk, op, ar, ln, en, so, lv, ed, pa, fp, fc, dp, hd, hc) → J (nI (i + 1)) nl nt cl se vd lk op ar ln en so lv ed pa fp fc dp hd hc) : wL_law_199 post N xs J x1 x2 x4 x5 (nI i) x8 x9 x11 kc ks nl nt cl se vd lk op ar ln en so lv ed pa fp fc dp hd hc := by
  refine tg_emit hL U _ _ _ (fun r u' U' => ?_)
  obtain ⟨b1, b2, b3, b4, b5, b6, b7, b8, b9, b10, b11, b12, b13, b14, b15, b16, b17, b18, b19⟩ := u'
  exact nm_r (nI_1 i) (hJ _ _ _ _ _ _ _ _ _ _ _ _ _ _ _ _ _ _ _ U')
theorem tl_147 {post : Int32 → Prop} {N L T i : Nat} {xs : Nat → Int32} {x2 x4 x5 x8 x9 x10 : Int32} {kc ks : Nat} {J : Int32 → Int32 → Int32 → Int32 → Int32 → Int32 → Int32 → (Nat → Int32) → (Nat → Int32) → (Nat → Int32) → (Nat → Int32) → (Nat → Int32) → (Nat → Int32) → (Nat → Int32) → (Nat → Int32) → (Nat → Int32) → (Nat → Int32) → (Nat → Int32) → (Nat → Int32) → (Nat → Int32) → Prop} (hL2 : 2 ≤ L) (hL : L ≤ 8) (U : tk_U L T (nl, nt, cl, se, vd, lk, op, ar, ln, en, so, lv, ed, pa, fp, fc, dp, hd, hc)) (hJ : ∀ nl nt cl se vd lk op ar ln en so lv ed pa fp fc dp hd hc, tk_U L T (nl, nt, cl, se, vd, lk, op, ar, ln, en, so, lv, ed, pa, fp, fc, dp, hd, hc) → J (nI (i + 1)) nl nt cl se vd lk op ar ln en so lv ed pa fp fc dp hd hc) : wL_law_147 post N xs J (nI L) x2 x4 x5 (nI i) x8 x9 x10 kc ks nl nt cl se vd lk op ar ln en so lv ed pa fp fc dp hd hc :=
  And.intro (nI_ne0 (by omega) (by omega)) (nm_e (tl_199 hL U hJ))
theorem tl_92 {post : Int32 → Prop} {N L T n0 : Nat} {xs : Nat → Int32} {kc ks : Nat} (hN : N ≤ 260) (hL2 : 2 ≤ L) (hL : L ≤ 8) (hT1 : 1 ≤ T) (hT : T ≤ 4) (hn0 : n0 ≤ 31) (hp : post 1) : ∀ (m n i : Nat) (nl nt cl se vd lk : Int32) (op ar ln en so lv ed pa fp fc dp hd hc : Nat → Int32), i + m = n0 → m < n → tk_U L T (nl, nt, cl, se, vd, lk, op, ar, ln, en, so, lv, ed, pa, fp, fc, dp, hd, hc) → wL_law_92 post N xs (nI L) (nI T) (nI n0) (nI 7) kc ks n (nI i) nl nt cl se vd lk op ar ln en so lv ed pa fp fc dp hd hc := by
  intro m
  induction m with
  | zero =>
    intro n i nl nt cl se vd lk op ar ln en so lv ed pa fp fc dp hd hc hi hn U
    obtain ⟨n, rfl⟩ : ∃ m, n = m + 1 := ⟨n - 1, by omega⟩
    refine pk_le n0 i (fun _ => nm_r (nI_add 7 n0) ?_) (fun h => absurd h (by omega))
    refine tx_check hL2 hL hT U (fun u' G => ?_) (fun r u' hr => ?_)
    · obtain ⟨b1, b2, b3, b4, b5, b6, b7, b8, b9, b10, b11, b12, b13, b14, b15, b16, b17, b18, b19⟩ := u'
      exact br_t rfl ⟨L + 1, tl_239 hN hL hT1 hT (by omega) G hp L (L + 1) 0 (by omega) (by omega)⟩
    · obtain ⟨b1, b2, b3, b4, b5, b6, b7, b8, b9, b10, b11, b12, b13, b14, b15, b16, b17, b18, b19⟩ := u'
      exact br_f hr hp
  | succ m ih =>
    intro n i nl nt cl se vd lk op ar ln en so lv ed pa fp fc dp hd hc hi hn U
    obtain ⟨n, rfl⟩ : ∃ m, n = m + 1 := ⟨n - 1, by omega⟩
    have k1 : ∀ nl nt cl se vd lk op ar ln en so lv ed pa fp fc dp hd hc, tk_U L T (nl, nt, cl, se, vd, lk, op, ar, ln, en, so, lv, ed, pa, fp, fc, dp, hd, hc) → wL_law_92 post N xs (nI L) (nI T) (nI n0) (nI 7) kc ks n (nI (i + 1)) nl nt cl se vd lk op ar ln en so lv ed pa fp fc dp hd hc := fun nl nt cl se vd lk op ar ln en so lv ed pa fp fc dp hd hc U' => ih n (i + 1) nl nt cl se vd lk op ar ln en so lv ed pa fp fc dp hd hc (by omega) (by omega) U'
    refine pk_le n0 i (fun h => absurd h (by omega)) (fun _ => tl_cell hN (nI_add 7 i) (by omega) (fun v => ?_))
    obtain ⟨p, hp8, ep⟩ := pk_andE v (m := 7) 3 (by decide)
    refine nm_r ep (nm_e (nm_e (br_c (fun _ => tl_147 hL2 hL U k1) (fun _ => br_c (fun _ => tl_147 hL2 hL U k1) (fun _ => br_c (fun _ => pk_eq p 7 (fun _ => tl_199 hL U k1) (fun h7 => ?_) rfl rfl (by omega) (by omega)) (fun _ => tl_199 hL U k1))))))
    have hp8' : p < 8 := hp8
    have e7 : (7 : Int32) - nI p = nI (7 - p) := pk_sub (a := 7) (by omega)
    refine And.intro ?_ (nm_e (tl_199 hL U k1))
    rw [e7]
    exact nI_ne0 (by omega) (by omega)
theorem tl_43 {post : Int32 → Prop} {N L T n0 : Nat} {xs : Nat → Int32} {kc ks : Nat} (hN : N ≤ 260) (hL2 : 2 ≤ L) (hL : L ≤ 8) (hT1 : 1 ≤ T) (hT : T ≤ 4) (hn0 : n0 ≤ 31) (hp : post 1) : ∀ (m n t : Nat) (nl nt cl se vd lk : Int32) (op ar ln en so lv ed pa fp fc dp hd hc : Nat → Int32), t + m = T → m < n → tk_U L T (nl, nt, cl, se, vd, lk, op, ar, ln, en, so, lv, ed, pa, fp, fc, dp, hd, hc) → wL_law_43 post N xs (nI L) (nI T) (nI n0) kc ks n (nI t) nl nt cl se vd lk op ar ln en so lv ed pa fp fc dp hd hc := by
  intro m
  induction m with
  | zero =>
    intro n t nl nt cl se vd lk op ar ln en so lv ed pa fp fc dp hd hc hi hn U
    obtain ⟨n, rfl⟩ : ∃ m, n = m + 1 := ⟨n - 1, by omega⟩
    refine pk_le T t (fun _ => ?_) (fun h => absurd h (by omega))
    exact ⟨n0 + 1, tl_92 hN hL2 hL hT1 hT hn0 hp n0 (n0 + 1) 0 _ _ _ _ _ _ _ _ _ _ _ _ _ _ _ _ _ _ _ (by omega) (by omega) U⟩
  | succ m ih =>
    intro n t nl nt cl se vd lk op ar ln en so lv ed pa fp fc dp hd hc hi hn U
    obtain ⟨n, rfl⟩ : ∃ m, n = m + 1 := ⟨n - 1, by omega⟩
    refine pk_le T t (fun h => absurd h (by omega)) (fun _ => tl_cell hN (nI_add 3 t) (by omega) (fun v => br_c (fun _ => nm_r (nI_1 t) (ih n (t + 1) _ _ _ _ _ _ _ _ _ _ _ _ _ _ _ _ _ _ _ (by omega) (by omega) U)) (fun _ => ?_)))
    refine tg_setEntry hT U _ _ (fun r u' U' => ?_)
    obtain ⟨b1, b2, b3, b4, b5, b6, b7, b8, b9, b10, b11, b12, b13, b14, b15, b16, b17, b18, b19⟩ := u'
    exact nm_r (nI_1 t) (ih n (t + 1) _ _ _ _ _ _ _ _ _ _ _ _ _ _ _ _ _ _ _ (by omega) (by omega) U')
end
theorem i_vc (xs : Nat → Int32) (L : Nat) (hL : L ≤ 260) : wpL_law (fun r => r = 1) L xs := by
  unfold wpL_law
  refine tl_cell hL (j := 0) rfl (by omega) (fun v0 => ?_)
  obtain ⟨a, ha, ea⟩ := pk_andE v0 (m := 3) 2 (by decide)
  have ha4 : a < 4 := ha
  refine nm_r (e' := nI (2 + a)) (by rw [ea]; exact nI_add 2 a) ?_
  refine tl_cell hL (j := 1) rfl (by omega) (fun v1 => ?_)
  obtain ⟨b, hb, eb⟩ := pk_andE v1 (m := 3) 2 (by decide)
  have hb4 : b < 4 := hb
  refine nm_r (e' := nI (1 + b)) (by rw [eb]; exact nI_add 1 b) ?_
  refine ⟨13, 364, by omega, by omega, ?_⟩
  refine tl_init (L := 2 + a) (T := 1 + b) (by omega) (by omega) (by omega) (by omega) (fun u U => ?_)
  obtain ⟨b1, b2, b3, b4, b5, b6, b7, b8, b9, b10, b11, b12, b13, b14, b15, b16, b17, b18, b19⟩ := u
  refine tl_cell hL (j := 2) rfl (by omega) (fun v2 => ?_)
  obtain ⟨c, hc, ec⟩ := pk_andE v2 (m := 31) 5 (by decide)
  have hc32 : c < 32 := hc
  refine nm_r ec ?_
  exact ⟨(1 + b) + 1, tl_43 (post := fun r => r = 1) (xs := xs) (n0 := c) hL (by omega) (by omega) (by omega) (by omega) (by omega) rfl (1 + b) ((1 + b) + 1) 0 _ _ _ _ _ _ _ _ _ _ _ _ _ _ _ _ _ _ _ (by omega) (by omega) U⟩
end
