/-! X's paths, lowest cycle lock and levels -/
def ll_E (ed : Nat → Int32) (a b : Nat) : Prop := a < 8 ∧ b < 8 ∧ ¬ ed (a * 8 + b) = 0
def ll_cp (k : Nat) (f g : Nat → Int32) : Nat → Int32 := fun j => if j < k then f j else g j
def ll_J (L : Nat) (p0 : Nat → Int32) (f k j : Nat) (pa : Nat → Int32) : Prop :=
  ∀ a b, a < L → b < L → (¬ pa (a * 8 + b) = 0 ↔ (¬ p0 (a * 8 + b) = 0 ∨ (a = f ∧ b < j ∧ ¬ p0 (k * 8 + b) = 0)))
def ll_V (L : Nat) (E : Nat → Nat → Prop) (k f : Nat) (pa : Nat → Int32) : Prop :=
  (∀ a b, a < L → b < L → a < f → (¬ pa (a * 8 + b) = 0 ↔ gr_P E (k + 1) a b)) ∧ (∀ a b, a < L → b < L → f ≤ a → (¬ pa (a * 8 + b) = 0 ↔ gr_P E k a b))
/-- X's lowest cycle lock as its scan finds it -/
def ll_LO (L : Nat) (pa : Nat → Int32) (r : Int32) : Prop :=
  (r = -1 ∧ ∀ l, l < L → pa (l * 8 + l) = 0) ∨ (∃ l, l < L ∧ r = nI l ∧ ¬ pa (l * 8 + l) = 0 ∧ ∀ j, j < l → pa (j * 8 + j) = 0)
theorem gr_LIsub {E : Nat → Nat → Prop} {L r : Nat} {D D' : Nat → Nat → Prop} {lev : Nat → Nat} (h : gr_LI E L r D lev) (hD : ∀ x y, E x y → D' x y → D x y) : gr_LI E L r D' lev :=
  ⟨h.1, h.2.1, h.2.2.1, fun x y e hr d => h.2.2.2 x y e hr (hD x y e d)⟩
theorem ll_Edom {L : Nat} {ed : Nat → Int32} (h : ll_EB L ed) : ∀ a b, ll_E ed a b → a < L ∧ b < L := fun a b e => h.2 a b e.1 e.2.1 e.2.2
theorem ll_1n0 : ¬ (1 : Int32) = 0 := by decide
section
variable {nl nt cl se vd lk : Int32} {op ar ln en so lv ed pa fp fc dp hd hc fp' fc' dp' hd' hc' : Nat → Int32}
theorem ll_cp_s (f g : Nat → Int32) (k : Nat) : upd (ll_cp k f g) k (f k) = ll_cp (k + 1) f g := by
  funext j
  by_cases e : j = k
  · rw [e, pk_us]
    exact (if_pos (by omega)).symm
  · rw [pk_un e]
    show (if j < k then f j else g j) = (if j < k + 1 then f j else g j)
    by_cases h : j < k
    · rw [if_pos h, if_pos (by omega)]
    · rw [if_neg h, if_neg (by omega)]
theorem ll_cp_0 (f g : Nat → Int32) : ll_cp 0 f g = g := by
  funext j
  exact if_neg (by omega)
theorem ll_cp_t {f g : Nat → Int32} {k j : Nat} (h : j < k) : ll_cp k f g j = f j := if_pos h
theorem lx_cp {post : St2 → Prop} (B : ll_B ed) (hp : ∃ n, wX_findPaths_28 post n 0 nl nt cl se vd lk op ar ln en so lv ed (ll_cp 64 ed pa) fp fc dp hd hc) : ∀ (r n k : Nat), k + r = 64 → r < n → wX_findPaths_2 post nl nt cl se vd lk n (nI k) op ar ln en so lv ed (ll_cp k ed pa) fp fc dp hd hc := by
  intro r
  induction r with
  | zero =>
    intro n k hk hn
    obtain ⟨n, rfl⟩ : ∃ m, n = m + 1 := ⟨n - 1, by omega⟩
    have e : k = 64 := by omega
    subst e
    exact pk_le 64 64 (fun _ => hp) (fun h => absurd h (by omega))
  | succ r ih =>
    intro n k hk hn
    obtain ⟨n, rfl⟩ : ∃ m, n = m + 1 := ⟨n - 1, by omega⟩
    have c1 : (nI k).toNatClampNeg = k := nI_clamp (by omega)
    have q := ih n (k + 1) (by omega) (by omega)
    have hi : vp_in (nI k) 64 := vp_in_nI (by omega) (by decide)
    exact pk_le 64 k (fun h => absurd h (by omega)) (fun _ => And.intro hi ⟨hi, nm_r (e' := ll_cp (k + 1) ed pa) (by rw [c1, ll_bn (B k), ll_cp_s]) (nm_r (nI_1 k) q)⟩)
theorem lx_join {post : St2 → Prop} {L f k : Nat} {p0 : Nat → Int32} (hL : L ≤ 8) (hf : f < L) (hk : k < L) (hp : ∀ pa', ll_J L p0 f k L pa' → post (nI L, nt, cl, se, vd, lk, op, ar, ln, en, so, lv, ed, pa', fp, fc, dp, hd, hc)) : ∀ (r n j : Nat) (pa : Nat → Int32), j + r = L → r < n → ll_J L p0 f k j pa → wX_joinPaths_2 post (nI f) (nI k) (nI L) nt cl se vd lk n (nI j) op ar ln en so lv ed pa fp fc dp hd hc := by
  intro r
  induction r with
  | zero =>
    intro n j pa hj hn I
    obtain ⟨n, rfl⟩ : ∃ m, n = m + 1 := ⟨n - 1, by omega⟩
    have e : j = L := by omega
    subst e
    exact pk_le j j (fun _ => hp pa I) (fun h => absurd h (by omega))
  | succ r ih =>
    intro n j pa hj hn I
    obtain ⟨n, rfl⟩ : ∃ m, n = m + 1 := ⟨n - 1, by omega⟩
    have c1 : (nI (k * 8 + j)).toNatClampNeg = k * 8 + j := nI_clamp (by omega)
    have c2 : (nI (f * 8 + j)).toNatClampNeg = f * 8 + j := nI_clamp (by omega)
    have hi : vp_in (nI (k * 8 + j)) 64 := vp_in_nI (by omega) (by decide)
    have hi2 : vp_in (nI (f * 8 + j)) 64 := vp_in_nI (by omega) (by decide)
    have hkj := I k j hk (by omega)
    refine pk_le L j (fun h => absurd h (by omega)) (fun _ => ?_)
    rw [ll_cel k j, ll_cel f j, c1, c2]
    refine And.intro hi ?_
    by_cases z : pa (k * 8 + j) = 0
    · refine br_t z (nm_r (nI_1 j) (ih n (j + 1) pa (by omega) (by omega) (fun a b ha hb => ?_)))
      rw [I a b ha hb]
      have hz : p0 (k * 8 + j) = 0 := by
        by_cases x : p0 (k * 8 + j) = 0
        · exact x
        · exact absurd z (hkj.mpr (Or.inl x))
      constructor
      · rintro (q | ⟨q1, q2, q3⟩)
        · exact Or.inl q
        · exact Or.inr ⟨q1, by omega, q3⟩
      · rintro (q | ⟨q1, q2, q3⟩)
        · exact Or.inl q
        · by_cases x : b = j
          · rw [x] at q3
            exact absurd hz q3
          · exact Or.inr ⟨q1, by omega, q3⟩
    · have hz : ¬ p0 (k * 8 + j) = 0 := by
        rcases hkj.mp z with q | ⟨_, q, _⟩
        · exact q
        · exact absurd q (by omega)
      refine br_f z ⟨hi2, nm_r (e' := upd pa (f * 8 + j) 1) rfl (nm_r (nI_1 j) (ih n (j + 1) (upd pa (f * 8 + j) 1) (by omega) (by omega) (fun a b ha hb => ?_)))⟩
      by_cases x : a * 8 + b = f * 8 + j
      · have xa : a = f := by omega
        have xb : b = j := by omega
        rw [x, pk_us, xa, xb]
        exact ⟨fun _ => Or.inr ⟨rfl, by omega, hz⟩, fun _ => ll_1n0⟩
      · rw [pk_un x, I a b ha hb]
        constructor
        · rintro (q | ⟨q1, q2, q3⟩)
          · exact Or.inl q
          · exact Or.inr ⟨q1, by omega, q3⟩
        · rintro (q | ⟨q1, q2, q3⟩)
          · exact Or.inl q
          · exact Or.inr ⟨q1, by omega, q3⟩
theorem ll_Vs {L k f : Nat} {E : Nat → Nat → Prop} {p' : Nat → Int32} (hf : f < L) (hk : k < L) (I : ll_V L E k f pa) (hz : ¬ pa (f * 8 + k) = 0) (hJ : ll_J L pa f k L p') : ll_V L E k (f + 1) p' := by
  have hfk : gr_P E k f k := (I.2 f k hf hk (Nat.le_refl _)).mp hz
  have hrow : ∀ b, b < L → (¬ pa (k * 8 + b) = 0 ↔ gr_P E k k b) := by
    intro b hb
    by_cases x : k < f
    · rw [I.1 k b hk hb x]
      exact gr_row k b
    · exact I.2 k b hk hb (by omega)
  refine ⟨fun a b ha hb hlt => ?_, fun a b ha hb hle => ?_⟩
  · rw [hJ a b ha hb]
    by_cases x : a = f
    · subst x
      rw [I.2 a b ha hb (Nat.le_refl _), hrow b hb]
      constructor
      · rintro (q | ⟨_, _, q⟩)
        · exact Or.inl q
        · exact Or.inr ⟨hfk, q⟩
      · rintro (q | q)
        · exact Or.inl q
        · exact Or.inr ⟨rfl, hb, q.2⟩
    · rw [I.1 a b ha hb (by omega)]
      exact ⟨fun q => q.elim id (fun q => absurd q.1 x), Or.inl⟩
  · rw [hJ a b ha hb, I.2 a b ha hb (by omega)]
    exact ⟨fun q => q.elim id (fun q => absurd q.1 (by omega)), Or.inl⟩
theorem ll_Vn {L k f : Nat} {E : Nat → Nat → Prop} (hf : f < L) (hk : k < L) (I : ll_V L E k f pa) (hz : pa (f * 8 + k) = 0) : ll_V L E k (f + 1) pa := by
  have hfk : ¬ gr_P E k f k := fun q => (I.2 f k hf hk (Nat.le_refl _)).mpr q hz
  refine ⟨fun a b ha hb hlt => ?_, fun a b ha hb hle => I.2 a b ha hb (by omega)⟩
  by_cases x : a = f
  · subst x
    rw [I.2 a b ha hb (Nat.le_refl _)]
    exact ⟨Or.inl, fun q => q.elim id (fun q => absurd q.1 hfk)⟩
  · exact I.1 a b ha hb (by omega)
theorem lx_fp38 {post : St2 → Prop} {L k : Nat} {E : Nat → Nat → Prop} {J : Int32 → Int32 → Int32 → Int32 → Int32 → Int32 → Int32 → (Nat → Int32) → (Nat → Int32) → (Nat → Int32) → (Nat → Int32) → (Nat → Int32) → (Nat → Int32) → (Nat → Int32) → (Nat → Int32) → (Nat → Int32) → (Nat → Int32) → (Nat → Int32) → (Nat → Int32) → (Nat → Int32) → Prop} (hL : L ≤ 8) (hk : k < L) (hJ : ∀ pa', ll_V L E k L pa' → J (nI (k + 1)) (nI L) nt cl se vd lk op ar ln en so lv ed pa' fp fc dp hd hc) : ∀ (r n f : Nat) (pa : Nat → Int32), f + r = L → r < n → ll_V L E k f pa → wX_findPaths_38 post J (nI k) n (nI f) (nI L) nt cl se vd lk op ar ln en so lv ed pa fp fc dp hd hc := by
  intro r
  induction r with
  | zero =>
    intro n f pa hf hn I
    obtain ⟨n, rfl⟩ : ∃ m, n = m + 1 := ⟨n - 1, by omega⟩
    have e : f = L := by omega
    subst e
    exact pk_le f f (fun _ => nm_r (nI_1 k) (hJ pa I)) (fun h => absurd h (by omega))
  | succ r ih =>
    intro n f pa hf hn I
    obtain ⟨n, rfl⟩ : ∃ m, n = m + 1 := ⟨n - 1, by omega⟩
    have c1 : (nI (f * 8 + k)).toNatClampNeg = f * 8 + k := nI_clamp (by omega)
    have hi : vp_in (nI (f * 8 + k)) 64 := vp_in_nI (by omega) (by decide)
    refine pk_le L f (fun h => absurd h (by omega)) (fun _ => ?_)
    rw [ll_cel f k, c1]
    refine And.intro hi ?_
    by_cases z : pa (f * 8 + k) = 0
    · exact br_t z (nm_r (nI_1 f) (ih n (f + 1) pa (by omega) (by omega) (ll_Vn (by omega) hk I z)))
    · refine br_f z ?_
      refine ⟨L + 1, lx_join (p0 := pa) hL (by omega) hk (fun p' hp' => ?_) L (L + 1) 0 pa (by omega) (by omega) (fun a b _ _ => ⟨Or.inl, fun q => q.elim id (fun q => absurd q.2.1 (by omega))⟩)⟩
      exact nm_r (nI_1 f) (ih n (f + 1) p' (by omega) (by omega) (ll_Vs (by omega) hk I z hp'))
theorem lx_fp28 {post : St2 → Prop} {L : Nat} {E : Nat → Nat → Prop} (hL : L ≤ 8) (hp : ∀ pa', (∀ a b, a < L → b < L → (¬ pa' (a * 8 + b) = 0 ↔ gr_P E L a b)) → post (nI L, nt, cl, se, vd, lk, op, ar, ln, en, so, lv, ed, pa', fp, fc, dp, hd, hc)) : ∀ (r n k : Nat) (pa : Nat → Int32), k + r = L → r < n → (∀ a b, a < L → b < L → (¬ pa (a * 8 + b) = 0 ↔ gr_P E k a b)) → wX_findPaths_28 post n (nI k) (nI L) nt cl se vd lk op ar ln en so lv ed pa fp fc dp hd hc := by
  intro r
  induction r with
  | zero =>
    intro n k pa hk hn I
    obtain ⟨n, rfl⟩ : ∃ m, n = m + 1 := ⟨n - 1, by omega⟩
    have e : k = L := by omega
    subst e
    exact pk_le k k (fun _ => hp pa I) (fun h => absurd h (by omega))
  | succ r ih =>
    intro n k pa hk hn I
    obtain ⟨n, rfl⟩ : ∃ m, n = m + 1 := ⟨n - 1, by omega⟩
    refine pk_le L k (fun h => absurd h (by omega)) (fun _ => ?_)
    exact ⟨L + 1, lx_fp38 (E := E) hL (by omega) (fun p' I' => ih n (k + 1) p' (by omega) (by omega) (fun a b ha hb => I'.1 a b ha hb ha)) L (L + 1) 0 pa (by omega) (by omega) ⟨fun a b _ _ h => absurd h (by omega), fun a b ha hb _ => I a b ha hb⟩⟩
theorem lx_paths {post : St2 → Prop} {L : Nat} (hL : L ≤ 8) (B : ll_EB L ed) (hp : ∀ pa', (∀ a b, a < L → b < L → (¬ pa' (a * 8 + b) = 0 ↔ gr_P (ll_E ed) L a b)) → post (nI L, nt, cl, se, vd, lk, op, ar, ln, en, so, lv, ed, pa', fp, fc, dp, hd, hc)) : wpX_findPaths post (nI L, nt, cl, se, vd, lk, op, ar, ln, en, so, lv, ed, pa, fp, fc, dp, hd, hc) := by
  have q := lx_cp (post := post) (nl := nI L) (nt := nt) (cl := cl) (se := se) (vd := vd) (lk := lk) (op := op) (ar := ar) (ln := ln) (en := en) (so := so) (lv := lv) (ed := ed) (pa := pa) (fp := fp) (fc := fc) (dp := dp) (hd := hd) (hc := hc) B.1 ⟨L + 1, lx_fp28 (E := ll_E ed) hL hp L (L + 1) 0 (ll_cp 64 ed pa) (by omega) (by omega) (fun a b ha hb => by
    rw [ll_cp_t (show a * 8 + b < 64 by omega)]
    exact ⟨fun q => ⟨by omega, by omega, q⟩, fun q => q.2.2⟩)⟩ 64 65 0 (by omega) (by omega)
  rw [ll_cp_0] at q
  exact ⟨65, q⟩
theorem lx_low2 {L : Nat} (hL : L ≤ 8) : ∀ (r k : Nat), k + r = L → (∀ j, j < k → pa (j * 8 + j) = 0) → ∃ x, ll_LO L pa x ∧ ∀ (post : Int32 → Prop) (n : Nat), r < n → post x → wX_findLowestCycleLock_2 post (nI L) nt cl se vd lk op ar ln en so lv ed pa fp fc dp hd hc n (nI k) := by
  intro r
  induction r with
  | zero =>
    intro k hk h
    have e : k = L := by omega
    subst e
    refine ⟨-1, Or.inl ⟨rfl, h⟩, fun post n hn hp => ?_⟩
    obtain ⟨n, rfl⟩ : ∃ m, n = m + 1 := ⟨n - 1, by omega⟩
    exact pk_le k k (fun _ => hp) (fun h => absurd h (by omega))
  | succ r ih =>
    intro k hk h
    have c1 : (nI (k * 8 + k)).toNatClampNeg = k * 8 + k := nI_clamp (by omega)
    have hi : vp_in (nI (k * 8 + k)) 64 := vp_in_nI (by omega) (by decide)
    by_cases z : pa (k * 8 + k) = 0
    · obtain ⟨x, h1, h2⟩ := ih (k + 1) (by omega) (lt_s h z)
      refine ⟨x, h1, fun post n hn hp => ?_⟩
      obtain ⟨n, rfl⟩ : ∃ m, n = m + 1 := ⟨n - 1, by omega⟩
      refine pk_le L k (fun h => absurd h (by omega)) (fun _ => ?_)
      rw [ll_cel k k, c1]
      exact And.intro hi (br_t z (nm_r (nI_1 k) (h2 post n (by omega) hp)))
    · refine ⟨nI k, Or.inr ⟨k, by omega, rfl, z, h⟩, fun post n hn hp => ?_⟩
      obtain ⟨n, rfl⟩ : ∃ m, n = m + 1 := ⟨n - 1, by omega⟩
      refine pk_le L k (fun h => absurd h (by omega)) (fun _ => ?_)
      rw [ll_cel k k, c1]
      exact And.intro hi (br_f z hp)
theorem lx_low {L : Nat} (hL : L ≤ 8) : ∃ x, ll_LO L pa x ∧ ∀ (post : Int32 → Prop), post x → wpX_findLowestCycleLock post (nI L, nt, cl, se, vd, lk, op, ar, ln, en, so, lv, ed, pa, fp, fc, dp, hd, hc) := by
  obtain ⟨x, h1, h2⟩ := lx_low2 (nt := nt) (cl := cl) (se := se) (vd := vd) (lk := lk) (op := op) (ar := ar) (ln := ln) (en := en) (so := so) (lv := lv) (ed := ed) (pa := pa) (fp := fp) (fc := fc) (dp := dp) (hd := hd) (hc := hc) hL L 0 (by omega) (fun j hj => absurd hj (by omega))
  exact ⟨x, h1, fun post hp => ⟨L + 1, h2 post (L + 1) (by omega) hp⟩⟩
theorem lx_raise2 {post : St2 → Prop} {L q a l0 : Nat} (hL : L ≤ 8) (ha : a < L) (hE : ∀ x y, ll_E ed x y → x < L ∧ y < L) (hac : ∀ x, ¬ gr_P (ll_E ed) L x x) (hp : ∀ lv' lev', (∀ j, j < 8 → lv' j = nI (lev' j)) → gr_LI (ll_E ed) L q (fun x _ => x < a + 1) lev' → post (nI L, nt, cl, se, vd, lk, op, ar, ln, en, so, lv', ed, pa, fp, fc, dp, hd, hc)) : ∀ (r n b : Nat) (lv : Nat → Int32) (lev : Nat → Nat), b + r = L → r < n → (∀ j, j < 8 → lv j = nI (lev j)) → lev a = l0 → gr_LI (ll_E ed) L q (fun x y => x < a ∨ (x = a ∧ y < b)) lev → wX_raiseSuccessors_11 post (nI a) (nI (l0 + 1)) (nI L) nt cl se vd lk n (nI b) op ar ln en so lv ed pa fp fc dp hd hc := by
  intro r
  induction r with
  | zero =>
    intro n b lv lev hb hn hl h0 I
    obtain ⟨n, rfl⟩ : ∃ m, n = m + 1 := ⟨n - 1, by omega⟩
    have e : b = L := by omega
    subst e
    refine pk_le b b (fun _ => hp lv lev hl (gr_LIsub I (fun x y e d => ?_))) (fun h => absurd h (by omega))
    have := hE x y e
    show x < a ∨ (x = a ∧ y < b)
    omega
  | succ r ih =>
    intro n b lv lev hb hn hl h0 I
    obtain ⟨n, rfl⟩ : ∃ m, n = m + 1 := ⟨n - 1, by omega⟩
    have c1 : (nI (a * 8 + b)).toNatClampNeg = a * 8 + b := nI_clamp (by omega)
    have c2 : (nI b).toNatClampNeg = b := nI_clamp (by omega)
    have hi : vp_in (nI (a * 8 + b)) 64 := vp_in_nI (by omega) (by decide)
    have hi2 : vp_in (nI b) 8 := vp_in_nI (by omega) (by decide)
    have hD : ∀ x y, (x < a ∨ (x = a ∧ y < b + 1)) → (x < a ∨ (x = a ∧ y < b)) ∨ (x = a ∧ y = b) := by
      intro x y h
      omega
    have lb : lev b ≤ 8 := Nat.le_trans (I.1 b) (Nat.le_trans (gr_cle _ L) hL)
    have la : lev a ≤ 8 := Nat.le_trans (I.1 a) (Nat.le_trans (gr_cle _ L) hL)
    refine pk_le L b (fun h => absurd h (by omega)) (fun _ => ?_)
    rw [ll_cel a b, c1, c2, hl b (by omega)]
    refine And.intro hi ?_
    by_cases z : ed (a * 8 + b) = 0
    · exact br_t z (nm_r (nI_1 b) (ih n (b + 1) lv lev (by omega) (by omega) hl h0 (gr_LIno a b I (fun e => absurd z e.2.2) hD)))
    · have e : ll_E ed a b := ⟨by omega, by omega, z⟩
      refine br_f z ⟨hi2, pk_le (l0 + 1) (lev b) (fun h => ?_) (fun h => ?_)⟩
      · exact nm_r (nI_1 b) (ih n (b + 1) lv lev (by omega) (by omega) hl h0 (gr_LIno a b I (fun _ => by omega) hD))
      · have hne : a ≠ b := by
          intro x
          rw [← x] at e
          have := gr_Alt hE hac e
          omega
        refine ⟨hi2, nm_e (nm_r (nI_1 b) (ih n (b + 1) (upd lv b (nI (l0 + 1))) (fun j => if j = b then l0 + 1 else lev j) (by omega) (by omega) (fun j hj => ?_) ?_ ?_))⟩
        · by_cases x : j = b
          · rw [x, pk_us, if_pos rfl]
          · rw [pk_un x, if_neg x]
            exact hl j hj
        · show (if a = b then l0 + 1 else lev a) = l0
          rw [if_neg hne]
          exact h0
        · exact gr_LIup hE hac a b I e (by omega) hD _ (by rw [if_pos rfl, h0]) (fun j hj => if_neg hj)
theorem lx_raise {post : St2 → Prop} {L q a : Nat} {lev : Nat → Nat} (hL : L ≤ 8) (ha : a < L) (hE : ∀ x y, ll_E ed x y → x < L ∧ y < L) (hac : ∀ x, ¬ gr_P (ll_E ed) L x x) (hl : ∀ j, j < 8 → lv j = nI (lev j)) (I : gr_LI (ll_E ed) L q (fun x _ => x < a) lev) (hp : ∀ lv' lev', (∀ j, j < 8 → lv' j = nI (lev' j)) → gr_LI (ll_E ed) L q (fun x _ => x < a + 1) lev' → post (nI L, nt, cl, se, vd, lk, op, ar, ln, en, so, lv', ed, pa, fp, fc, dp, hd, hc)) : wpX_raiseSuccessors post (nI L, nt, cl, se, vd, lk, op, ar, ln, en, so, lv, ed, pa, fp, fc, dp, hd, hc) (nI a) := by
  have c1 : (nI a).toNatClampNeg = a := nI_clamp (by omega)
  refine And.intro (vp_in_nI (by omega) (by decide)) (nm_r (e' := nI (lev a + 1)) (by rw [c1, hl a (by omega), nI_1]) ?_)
  exact ⟨L + 1, lx_raise2 hL ha hE hac hp L (L + 1) 0 lv lev (by omega) (by omega) hl rfl (gr_LIsub I (fun x y _ d => by
    rcases d with d | d
    · exact d
    · exact absurd d.2 (by omega)))⟩
theorem lx_inf12 {post : St2 → Prop} {L q i : Nat} {J : Int32 → Int32 → Int32 → Int32 → Int32 → Int32 → Int32 → (Nat → Int32) → (Nat → Int32) → (Nat → Int32) → (Nat → Int32) → (Nat → Int32) → (Nat → Int32) → (Nat → Int32) → (Nat → Int32) → (Nat → Int32) → (Nat → Int32) → (Nat → Int32) → (Nat → Int32) → (Nat → Int32) → Prop} (hL : L ≤ 8) (hE : ∀ x y, ll_E ed x y → x < L ∧ y < L) (hac : ∀ x, ¬ gr_P (ll_E ed) L x x) (hJ : ∀ lv' lev', (∀ j, j < 8 → lv' j = nI (lev' j)) → gr_LI (ll_E ed) L (q + 1) (fun _ _ => False) lev' → J (nI (i + 1)) (nI L) nt cl se vd lk op ar ln en so lv' ed pa fp fc dp hd hc) : ∀ (r n a : Nat) (lv : Nat → Int32) (lev : Nat → Nat), a + r = L → r < n → (∀ j, j < 8 → lv j = nI (lev j)) → gr_LI (ll_E ed) L q (fun x _ => x < a) lev → wX_inferLevels_12 post J (nI i) n (nI a) (nI L) nt cl se vd lk op ar ln en so lv ed pa fp fc dp hd hc := by
  intro r
  induction r with
  | zero =>
    intro n a lv lev ha hn hl I
    obtain ⟨n, rfl⟩ : ∃ m, n = m + 1 := ⟨n - 1, by omega⟩
    have e : a = L := by omega
    subst e
    exact pk_le a a (fun _ => nm_r (nI_1 i) (hJ lv lev hl (gr_LInext I (fun x y e => (hE x y e).1)))) (fun h => absurd h (by omega))
  | succ r ih =>
    intro n a lv lev ha hn hl I
    obtain ⟨n, rfl⟩ : ∃ m, n = m + 1 := ⟨n - 1, by omega⟩
    refine pk_le L a (fun h => absurd h (by omega)) (fun _ => ?_)
    exact lx_raise hL (by omega) hE hac hl I (fun lv' lev' hl' I' => nm_r (nI_1 a) (ih n (a + 1) lv' lev' (by omega) (by omega) hl' I'))
theorem lx_inf2 {post : St2 → Prop} {L : Nat} (hL : L ≤ 8) (hE : ∀ x y, ll_E ed x y → x < L ∧ y < L) (hac : ∀ x, ¬ gr_P (ll_E ed) L x x) (hp : ∀ lv' lev', (∀ j, j < 8 → lv' j = nI (lev' j)) → gr_LI (ll_E ed) L (L - 1) (fun _ _ => False) lev' → post (nI L, nt, cl, se, vd, lk, op, ar, ln, en, so, lv', ed, pa, fp, fc, dp, hd, hc)) : ∀ (r n q : Nat) (lv : Nat → Int32) (lev : Nat → Nat), q + 1 + r = L → r < n → (∀ j, j < 8 → lv j = nI (lev j)) → gr_LI (ll_E ed) L q (fun _ _ => False) lev → wX_inferLevels_2 post n (nI (q + 1)) (nI L) nt cl se vd lk op ar ln en so lv ed pa fp fc dp hd hc := by
  intro r
  induction r with
  | zero =>
    intro n q lv lev hq hn hl I
    obtain ⟨n, rfl⟩ : ∃ m, n = m + 1 := ⟨n - 1, by omega⟩
    have e : q + 1 = L := by omega
    subst e
    exact pk_le (q + 1) (q + 1) (fun _ => hp lv lev hl I) (fun h => absurd h (by omega))
  | succ r ih =>
    intro n q lv lev hq hn hl I
    obtain ⟨n, rfl⟩ : ∃ m, n = m + 1 := ⟨n - 1, by omega⟩
    refine pk_le L (q + 1) (fun h => absurd h (by omega)) (fun _ => ?_)
    exact ⟨L + 1, lx_inf12 (q := q) hL hE hac (fun lv' lev' hl' I' => ih n (q + 1) lv' lev' (by omega) (by omega) hl' I') L (L + 1) 0 lv lev (by omega) (by omega) hl (gr_LIsub I (fun _ _ _ d => absurd d (by omega)))⟩
theorem lx_infer {post : St2 → Prop} {L : Nat} (h2 : 2 ≤ L) (hL : L ≤ 8) (hE : ∀ x y, ll_E ed x y → x < L ∧ y < L) (hac : ∀ x, ¬ gr_P (ll_E ed) L x x) (hl : ∀ j, j < 8 → lv j = 0) (hp : ∀ lv' lev', (∀ j, j < 8 → lv' j = nI (lev' j)) → gr_LI (ll_E ed) L (L - 1) (fun _ _ => False) lev' → post (nI L, nt, cl, se, vd, lk, op, ar, ln, en, so, lv', ed, pa, fp, fc, dp, hd, hc)) : wpX_inferLevels post (nI L, nt, cl, se, vd, lk, op, ar, ln, en, so, lv, ed, pa, fp, fc, dp, hd, hc) :=
  ⟨L + 1, lx_inf2 hL hE hac hp (L - 1) (L + 1) 0 lv (fun _ => 0) (by omega) (by omega) hl (gr_LI0 hE hac (fun _ => rfl))⟩
theorem lx_long0 {post : Int32 → Prop} {T : Nat} (hT : T ≤ 4) (hs : ∀ s, s < T → ∃ m, m ≤ 512 ∧ so s = nI m) (hp : post 0) : ∀ (r n k : Nat), k + r = T → r < n → wX_someSoloRunIsLong_2 post nl (nI T) cl se vd lk op ar ln en so lv ed pa fp fc dp hd hc n (nI k) := by
  intro r
  induction r with
  | zero =>
    intro n k hk hn
    obtain ⟨n, rfl⟩ : ∃ m, n = m + 1 := ⟨n - 1, by omega⟩
    have e : k = T := by omega
    subst e
    exact pk_le k k (fun _ => hp) (fun h => absurd h (by omega))
  | succ r ih =>
    intro n k hk hn
    obtain ⟨n, rfl⟩ : ∃ m, n = m + 1 := ⟨n - 1, by omega⟩
    obtain ⟨m, hm, e⟩ := hs k (by omega)
    have c1 : (nI k).toNatClampNeg = k := nI_clamp (by omega)
    exact pk_le T k (fun h => absurd h (by omega)) (fun _ => And.intro (vp_in_nI (by omega) (by decide)) (pk_le m 512 (fun _ => nm_r (nI_1 k) (ih n (k + 1) (by omega) (by omega))) (fun h => absurd h (by omega)) (by rw [c1]; exact e)))
theorem lx_long1 {post : Int32 → Prop} {T : Nat} (hT : T ≤ 4) (hs : ∀ s, s < T → ∃ m, m ≤ 513 ∧ so s = nI m) (hp : post 1) : ∀ (r n k : Nat), k + r = T → r < n → (∃ s, k ≤ s ∧ s < T ∧ so s = nI 513) → wX_someSoloRunIsLong_2 post nl (nI T) cl se vd lk op ar ln en so lv ed pa fp fc dp hd hc n (nI k) := by
  intro r
  induction r with
  | zero =>
    intro n k hk hn h
    obtain ⟨s, h1, h2, _⟩ := h
    omega
  | succ r ih =>
    intro n k hk hn h
    obtain ⟨n, rfl⟩ : ∃ m, n = m + 1 := ⟨n - 1, by omega⟩
    obtain ⟨m, hm, e⟩ := hs k (by omega)
    have c1 : (nI k).toNatClampNeg = k := nI_clamp (by omega)
    refine pk_le T k (fun h => absurd h (by omega)) (fun _ => And.intro (vp_in_nI (by omega) (by decide)) (pk_le m 512 (fun hm' => nm_r (nI_1 k) (ih n (k + 1) (by omega) (by omega) ?_)) (fun _ => hp) (by rw [c1]; exact e)))
    obtain ⟨s, h1, h2, h3⟩ := h
    have x : s ≠ k := by
      intro x
      rw [x, e, nI_eq (by omega) (by omega)] at h3
      omega
    exact ⟨s, by omega, h2, h3⟩
theorem lx_clr {post : St2 → Prop} (hp : post (nl, nt, cl, se, vd, lk, op, ar, ln, en, so, lv, ll_fl 64 ed 0, pa, fp, fc, dp, hd, hc)) : ∀ (r n k : Nat), k + r = 64 → r < n → wX_clearEdges_2 post nl nt cl se vd lk n (nI k) op ar ln en so lv (ll_fl k ed 0) pa fp fc dp hd hc := by
  intro r
  induction r with
  | zero =>
    intro n k hk hn
    obtain ⟨n, rfl⟩ : ∃ m, n = m + 1 := ⟨n - 1, by omega⟩
    have e : k = 64 := by omega
    subst e
    exact pk_le 64 64 (fun _ => hp) (fun h => absurd h (by omega))
  | succ r ih =>
    intro n k hk hn
    obtain ⟨n, rfl⟩ : ∃ m, n = m + 1 := ⟨n - 1, by omega⟩
    have c1 : (nI k).toNatClampNeg = k := nI_clamp (by omega)
    have q := ih n (k + 1) (by omega) (by omega)
    have hi : vp_in (nI k) 64 := vp_in_nI (by omega) (by decide)
    exact pk_le 64 k (fun h => absurd h (by omega)) (fun _ => And.intro hi (nm_r (e' := ll_fl (k + 1) ed 0) (by rw [c1, ll_fl_s]) (nm_r (nI_1 k) q)))
theorem lx_clear {post : St2 → Prop} (hp : post (nl, nt, cl, se, vd, lk, op, ar, ln, en, so, lv, ll_fl 64 ed 0, pa, fp, fc, dp, hd, hc)) : wpX_clearEdges post (nl, nt, cl, se, vd, lk, op, ar, ln, en, so, lv, ed, pa, fp, fc, dp, hd, hc) := by
  have q := lx_clr hp 64 65 0 (by omega) (by omega)
  rw [ll_fl_0] at q
  exact ⟨65, q⟩
theorem lx_verL {post : St2 → Prop} {T : Nat} (hT : T ≤ 4) (hs : ∀ s, s < T → ∃ m, m ≤ 513 ∧ so s = nI m) (h : ∃ s, s < T ∧ so s = nI 513) (hp : post (nl, nI T, cl, se, 2, lk, op, ar, ln, en, so, lv, ll_fl 64 ed 0, pa, fp, fc, dp, hd, hc)) : wpX_decideVerdict post (nl, nI T, cl, se, vd, lk, op, ar, ln, en, so, lv, ed, pa, fp, fc, dp, hd, hc) := by
  unfold wpX_decideVerdict
  obtain ⟨s, h1, h2⟩ := h
  refine ⟨T + 1, lx_long1 hT hs ?_ T (T + 1) 0 (by omega) (by omega) ⟨s, by omega, h1, h2⟩⟩
  refine br_f ll_1n0 ?_
  exact lx_clear hp
theorem lx_verN {post : St2 → Prop} {L T : Nat} (h2 : 2 ≤ L) (hL : L ≤ 8) (hT : T ≤ 4) (hs : ∀ s, s < T → ∃ m, m ≤ 512 ∧ so s = nI m) (B : ll_EB L ed) (hl : ∀ j, j < 8 → lv j = 0)
    (hpC : ∀ pa' l, l < L → gr_P (ll_E ed) L l l → (∀ j, j < l → ¬ gr_P (ll_E ed) L j j) → post (nI L, nI T, cl, se, 1, nI l, op, ar, ln, en, so, lv, ed, pa', fp, fc, dp, hd, hc))
    (hpA : ∀ pa' lv' lev', (∀ x, ¬ gr_P (ll_E ed) L x x) → (∀ j, j < 8 → lv' j = nI (lev' j)) → gr_LI (ll_E ed) L (L - 1) (fun _ _ => False) lev' → post (nI L, nI T, cl, se, 0, -1, op, ar, ln, en, so, lv', ed, pa', fp, fc, dp, hd, hc)) : wpX_decideVerdict post (nI L, nI T, cl, se, vd, lk, op, ar, ln, en, so, lv, ed, pa, fp, fc, dp, hd, hc) := by
  unfold wpX_decideVerdict
  refine ⟨T + 1, lx_long0 hT hs (br_t rfl ?_) T (T + 1) 0 (by omega) (by omega)⟩
  refine lx_paths hL B (fun pa' I => ?_)
  obtain ⟨x, hx, hw⟩ := lx_low (nt := nI T) (cl := cl) (se := se) (vd := vd) (lk := lk) (op := op) (ar := ar) (ln := ln) (en := en) (so := so) (lv := lv) (ed := ed) (pa := pa') (fp := fp) (fc := fc) (dp := dp) (hd := hd) (hc := hc) hL
  refine hw _ ?_
  rcases hx with ⟨rfl, hx⟩ | ⟨l, hl', rfl, h3, h4⟩
  · have hac : ∀ x, ¬ gr_P (ll_E ed) L x x := by
      intro x q
      have hx' := (gr_dom (ll_Edom B) L q).1
      exact (I x x hx' hx').mpr q (hx x hx')
    exact br_t rfl (lx_infer h2 hL (ll_Edom B) hac hl (fun lv' lev' q1 q2 => hpA pa' lv' lev' hac q1 q2))
  · exact br_f (fun q => ll_m1 l (by omega) q.symm) (hpC pa' l hl' ((I l l hl' hl').mp h3) (fun j hj q => (I j j (by omega) (by omega)).mpr q (h4 j hj)))
end
