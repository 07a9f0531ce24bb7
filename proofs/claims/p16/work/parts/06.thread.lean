/-! threads as stacks of (procedure, pc) and counts; what a solo run does, an interleaving does too -/
/-- a stack at rest -/
def tk_stl (ln : Nat → Int32) : List (Nat × Nat) → List (Nat × Nat)
  | [] => []
  | (p, c) :: s => if c < (ln p).toNatClampNeg then (p, c) :: s else tk_stl ln s
def tk_up (q : Nat → Nat) (a : Nat) : Nat → Nat := fun l => if l = a then q l + 1 else q l
def tk_dn (q : Nat → Nat) (a : Nat) : Nat → Nat := fun l => if l = a then q l - 1 else q l
/-- one instruction of a thread that is not blocked -/
def tk_nx (op ar ln : Nat → Int32) : List (Nat × Nat) × (Nat → Nat) → List (Nat × Nat) × (Nat → Nat)
  | ([], q) => ([], q)
  | ((p, c) :: s, q) =>
    if op (p * 8 + c) = 1 then (tk_stl ln ((p, c + 1) :: s), tk_up q (ar (p * 8 + c)).toNatClampNeg)
    else if op (p * 8 + c) = 2 then (tk_stl ln ((p, c + 1) :: s), tk_dn q (ar (p * 8 + c)).toNatClampNeg)
    else if op (p * 8 + c) = 3 then (tk_stl ln (((ar (p * 8 + c)).toNatClampNeg, 0) :: (p, c + 1) :: s), q)
    else (tk_stl ln ((p, c + 1) :: s), q)
/-- thread t alone, after k instructions -/
def tk_T (op ar ln en : Nat → Int32) (t : Nat) : Nat → List (Nat × Nat) × (Nat → Nat)
  | 0 => (tk_stl ln [((en t).toNatClampNeg, 0)], fun _ => 0)
  | k + 1 => tk_nx op ar ln (tk_T op ar ln en t k)
/-- the stack lies in the arrays -/
def tk_RS (fp fc : Nat → Int32) (b : Nat) : List (Nat × Nat) → Prop
  | [] => True
  | (p, c) :: s => p < 8 ∧ c ≤ 8 ∧ fp (b + s.length) = nI p ∧ fc (b + s.length) = nI c ∧ tk_RS fp fc b s
/-- thread t's part of the machine is x -/
def tk_TR (L t : Nat) (x : List (Nat × Nat) × (Nat → Nat)) (fp fc dp hd hc : Nat → Int32) : Prop :=
  dp t = nI x.1.length ∧ tk_RS fp fc (t * 8) x.1 ∧ ∀ l, l < L → (0 < x.2 l → hd l = nI t ∧ hc l = nI (x.2 l)) ∧ (x.2 l = 0 → ¬ hd l = nI t)
/-- where x wants a lock that it does not hold, the edges from all that it holds are there -/
def tk_EC (L : Nat) (op ar ed : Nat → Int32) (x : List (Nat × Nat) × (Nat → Nat)) : Prop :=
  ∀ p c s a, x.1 = (p, c) :: s → op (p * 8 + c) = 1 → ar (p * 8 + c) = nI a → a < L → x.2 a = 0 → ∀ l, l < L → 0 < x.2 l → ¬ ed (l * 8 + a) = 0
/-- what one instruction of t does to a lock -/
def tk_ch (t : Nat) (hd hc hd' hc' : Nat → Int32) (l : Nat) : Prop :=
  (hd' l = hd l ∧ hc' l = hc l) ∨ ((hd l = nI t ∨ (hd l = -1 ∧ hc l = 0)) ∧ (hd' l = nI t ∨ (hd' l = -1 ∧ hc' l = 0)))
section
variable {nl nt cl se vd lk : Int32} {op ar ln en so lv ed pa fp fc dp hd hc fp' fc' dp' hd' hc' : Nat → Int32}
theorem tk_b (t : Nat) : ∀ k l, (tk_T op ar ln en t k).2 l ≤ k := by
  intro k
  induction k with
  | zero => intro l; exact Nat.le_refl _
  | succ k ih =>
    intro l
    have h := ih l
    show (tk_nx op ar ln (tk_T op ar ln en t k)).2 l ≤ k + 1
    generalize tk_T op ar ln en t k = x at h
    obtain ⟨s, q⟩ := x
    cases s with
    | nil => exact Nat.le_succ_of_le h
    | cons y s =>
      obtain ⟨p, c⟩ := y
      have h' : q l ≤ k := h
      by_cases o1 : op (p * 8 + c) = 1
      · have e : tk_nx op ar ln ((p, c) :: s, q) = (tk_stl ln ((p, c + 1) :: s), tk_up q (ar (p * 8 + c)).toNatClampNeg) := if_pos o1
        rw [e]
        show (if l = (ar (p * 8 + c)).toNatClampNeg then q l + 1 else q l) ≤ k + 1
        split <;> omega
      · by_cases o2 : op (p * 8 + c) = 2
        · have e : tk_nx op ar ln ((p, c) :: s, q) = (tk_stl ln ((p, c + 1) :: s), tk_dn q (ar (p * 8 + c)).toNatClampNeg) := (if_neg o1).trans (if_pos o2)
          rw [e]
          show (if l = (ar (p * 8 + c)).toNatClampNeg then q l - 1 else q l) ≤ k + 1
          split <;> omega
        · by_cases o3 : op (p * 8 + c) = 3
          · have e : tk_nx op ar ln ((p, c) :: s, q) = (tk_stl ln (((ar (p * 8 + c)).toNatClampNeg, 0) :: (p, c + 1) :: s), q) := (if_neg o1).trans ((if_neg o2).trans (if_pos o3))
            rw [e]
            exact Nat.le_succ_of_le h'
          · have e : tk_nx op ar ln ((p, c) :: s, q) = (tk_stl ln ((p, c + 1) :: s), q) := (if_neg o1).trans ((if_neg o2).trans (if_neg o3))
            rw [e]
            exact Nat.le_succ_of_le h'
theorem tk_RScg {b : Nat} : ∀ s, (∀ i, i < s.length → fp' (b + i) = fp (b + i) ∧ fc' (b + i) = fc (b + i)) → tk_RS fp fc b s → tk_RS fp' fc' b s := by
  intro s
  induction s with
  | nil => intro _ _; trivial
  | cons y s ih =>
    obtain ⟨p, c⟩ := y
    intro h r
    have h1 := h s.length (by rw [List.length_cons]; omega)
    exact ⟨r.1, r.2.1, by rw [h1.1]; exact r.2.2.1, by rw [h1.2]; exact r.2.2.2.1, ih (fun i hi => h i (by rw [List.length_cons]; omega)) r.2.2.2.2⟩
theorem tk_sd {b : Nat} : ∀ s, tk_RS fp fc b s → ll_FR ln fp fc b s.length → ll_sd ln fp fc b s.length = (tk_stl ln s).length ∧ tk_RS fp fc b (tk_stl ln s) := by
  intro s
  induction s with
  | nil => intro _ _; exact ⟨rfl, trivial⟩
  | cons y s ih =>
    obtain ⟨p, c⟩ := y
    intro r F
    obtain ⟨p', c', n, e1, e2, e3, e4, e5, e6, e7⟩ := F s.length (by rw [List.length_cons]; omega)
    have hp : p' = p := (nI_eq (by omega) (by have := r.1; omega)).mp (e1.symm.trans r.2.2.1)
    have hc : c' = c := (nI_eq (by omega) (by have := r.2.1; omega)).mp (e4.symm.trans r.2.2.2.1)
    subst hp
    subst hc
    have hn : (ln p').toNatClampNeg = n := by rw [e5]; exact nI_clamp (by omega)
    by_cases h : c' < n
    · have q : tk_stl ln ((p', c') :: s) = (p', c') :: s := if_pos (by rw [hn]; exact h)
      rw [q]
      exact ⟨ll_sd_t e1 e3 e4 e5 h e7, r⟩
    · have q : tk_stl ln ((p', c') :: s) = tk_stl ln s := if_neg (by rw [hn]; exact h)
      rw [q, List.length_cons, ll_sd_f e1 e3 e4 e5 (by omega) e7]
      exact ih r.2.2.2.2 (ll_FRle F (by rw [List.length_cons]; omega))
theorem tk_top {T t p c : Nat} {s : List (Nat × Nat)} (S : ll_TS T ln fp fc dp) (ht : t < T) (hdp : dp t = nI (s.length + 1)) (hs : s.length < 100) (r : tk_RS fp fc (t * 8) ((p, c) :: s)) : s.length < 8 ∧ ll_FR ln fp fc (t * 8) (s.length + 1) ∧ ∃ m, fp (t * 8 + s.length) = nI p ∧ s.length ≤ p ∧ p < 8 ∧ fc (t * 8 + s.length) = nI c ∧ ln p = nI m ∧ c < m ∧ m ≤ 8 := by
  obtain ⟨he8, hF, p', c', m, h1, hep, hp8, h2, hl, hcm, hm⟩ := ll_cur (S.1 t ht) hdp (by omega)
  have hp : p' = p := (nI_eq (by omega) (by have := r.1; omega)).mp (h1.symm.trans r.2.2.1)
  have hc : c' = c := (nI_eq (by omega) (by have := r.2.1; omega)).mp (h2.symm.trans r.2.2.2.1)
  subst hp
  subst hc
  exact ⟨he8, hF, m, h1, hep, hp8, h2, hl, hcm, hm⟩
theorem tk_len {T t : Nat} {x : List (Nat × Nat) × (Nat → Nat)} {L : Nat} (S : ll_TS T ln fp fc dp) (ht : t < T) (hx : x.1.length < 2 ^ 31) (R : tk_TR L t x fp fc dp hd hc) : x.1.length ≤ 8 := by
  obtain ⟨d, h8, h1, _⟩ := S.1 t ht
  have e := R.1
  rw [h1, nI_eq (by omega) hx] at e
  omega
theorem tk_nxN {p c : Nat} {s : List (Nat × Nat)} {q : Nat → Nat} (ho : op (p * 8 + c) = 0) : tk_nx op ar ln ((p, c) :: s, q) = (tk_stl ln ((p, c + 1) :: s), q) := by
  show (if op (p * 8 + c) = 1 then _ else if op (p * 8 + c) = 2 then _ else if op (p * 8 + c) = 3 then _ else _) = _
  rw [ho, if_neg (by decide), if_neg (by decide), if_neg (by decide)]
theorem tk_nxA {p c a : Nat} {s : List (Nat × Nat)} {q : Nat → Nat} (ho : op (p * 8 + c) = 1) (ha : ar (p * 8 + c) = nI a) (ha8 : a < 8) : tk_nx op ar ln ((p, c) :: s, q) = (tk_stl ln ((p, c + 1) :: s), tk_up q a) := by
  show (if op (p * 8 + c) = 1 then _ else if op (p * 8 + c) = 2 then _ else if op (p * 8 + c) = 3 then _ else _) = _
  rw [if_pos ho, ha, nI_clamp (by omega)]
theorem tk_nxR {p c a : Nat} {s : List (Nat × Nat)} {q : Nat → Nat} (ho : op (p * 8 + c) = 2) (ha : ar (p * 8 + c) = nI a) (ha8 : a < 8) : tk_nx op ar ln ((p, c) :: s, q) = (tk_stl ln ((p, c + 1) :: s), tk_dn q a) := by
  show (if op (p * 8 + c) = 1 then _ else if op (p * 8 + c) = 2 then _ else if op (p * 8 + c) = 3 then _ else _) = _
  rw [if_neg (by rw [ho]; decide), if_pos ho, ha, nI_clamp (by omega)]
theorem tk_nxC {p c a : Nat} {s : List (Nat × Nat)} {q : Nat → Nat} (ho : op (p * 8 + c) = 3) (ha : ar (p * 8 + c) = nI a) (ha8 : a < 8) : tk_nx op ar ln ((p, c) :: s, q) = (tk_stl ln ((a, 0) :: (p, c + 1) :: s), q) := by
  show (if op (p * 8 + c) = 1 then _ else if op (p * 8 + c) = 2 then _ else if op (p * 8 + c) = 3 then _ else _) = _
  rw [if_neg (by rw [ho]; decide), if_neg (by rw [ho]; decide), if_pos ho, ha, nI_clamp (by omega)]
theorem tk_upa (q : Nat → Nat) (a : Nat) : tk_up q a a = q a + 1 := if_pos rfl
theorem tk_upo (q : Nat → Nat) {a l : Nat} (h : l ≠ a) : tk_up q a l = q l := if_neg h
theorem tk_dna (q : Nat → Nat) (a : Nat) : tk_dn q a a = q a - 1 := if_pos rfl
theorem tk_dno (q : Nat → Nat) {a l : Nat} (h : l ≠ a) : tk_dn q a l = q l := if_neg h
/-- acquired: the counts -/
theorem tk_lkA {L t a : Nat} {q : Nat → Nat} (hq : ∀ l, l < L → (0 < q l → hd l = nI t ∧ hc l = nI (q l)) ∧ (q l = 0 → ¬ hd l = nI t)) (ha : a < L) (hf : q a = 0 → hc a = 0) : ∀ l, l < L → (0 < tk_up q a l → upd hd a (nI t) l = nI t ∧ upd hc a (hc a + 1) l = nI (tk_up q a l)) ∧ (tk_up q a l = 0 → ¬ upd hd a (nI t) l = nI t) := by
  intro l hl
  by_cases e : l = a
  · subst e
    rw [tk_upa, pk_us, pk_us]
    refine ⟨fun _ => ⟨rfl, ?_⟩, fun z => absurd z (by omega)⟩
    by_cases z : q l = 0
    · rw [hf z, z]; rfl
    · rw [((hq l hl).1 (by omega)).2, nI_1]
  · rw [tk_upo q e, pk_un e, pk_un e]
    exact hq l hl
theorem tk_lkR {L t a : Nat} {q : Nat → Nat} (hq : ∀ l, l < L → (0 < q l → hd l = nI t ∧ hc l = nI (q l)) ∧ (q l = 0 → ¬ hd l = nI t)) (ha : a < L) (hb : q a < 1000) (hn : hd a = nI t) (htn : t < 2 ^ 31) : ∀ l, l < L → (0 < tk_dn q a l → (if hc a - 1 = 0 then upd hd a (-1) else hd) l = nI t ∧ upd hc a (hc a - 1) l = nI (tk_dn q a l)) ∧ (tk_dn q a l = 0 → ¬ (if hc a - 1 = 0 then upd hd a (-1) else hd) l = nI t) := by
  have h0 : 0 < q a := by
    by_cases z : q a = 0
    · exact absurd hn ((hq a ha).2 z)
    · omega
  obtain ⟨r, hr⟩ : ∃ r, q a = r + 1 := ⟨q a - 1, by omega⟩
  have hca : hc a - 1 = nI r := by rw [((hq a ha).1 h0).2, hr, nI_pred]
  intro l hl
  rw [hca]
  by_cases e : l = a
  · subst e
    rw [tk_dna, pk_us, hr, Nat.add_sub_cancel]
    by_cases z : r = 0
    · subst z
      rw [if_pos nI_0, pk_us]
      exact ⟨fun z => absurd z (by omega), fun _ => ll_m1 t htn⟩
    · rw [if_neg (nI_ne0 (by omega) (by omega))]
      exact ⟨fun _ => ⟨hn, rfl⟩, fun q => absurd q z⟩
  · rw [tk_dno q e, pk_un e]
    by_cases z : nI r = 0
    · rw [if_pos z, pk_un e]
      exact hq l hl
    · rw [if_neg z]
      exact hq l hl
theorem tk_lkR0 {L t a : Nat} {q : Nat → Nat} (hq : ∀ l, l < L → (0 < q l → hd l = nI t ∧ hc l = nI (q l)) ∧ (q l = 0 → ¬ hd l = nI t)) (ha : a < L) (hn : ¬ hd a = nI t) : ∀ l, l < L → (0 < tk_dn q a l → hd l = nI t ∧ hc l = nI (tk_dn q a l)) ∧ (tk_dn q a l = 0 → ¬ hd l = nI t) := by
  have h0 : q a = 0 := by
    by_cases z : q a = 0
    · exact z
    · exact absurd ((hq a ha).1 (by omega)).1 hn
  intro l hl
  by_cases e : l = a
  · subst e
    rw [tk_dna, h0]
    exact ⟨fun z => absurd z (by omega), fun _ => hn⟩
  · rw [tk_dno q e]
    exact hq l hl
end
