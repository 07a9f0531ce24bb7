/-! the reference's reach and levels -/
def ll_Q (L : Nat) (E R0 : Nat → Nat → Prop) (i : Nat) (re : Nat → Int32) : Prop :=
  (∀ a b, R0 a b → ll_E re a b) ∧ (∀ a b, ll_E re a b → gr_P E L a b) ∧ (∀ a m j, a < 8 → m < 8 → j < 8 → a * 64 + m * 8 + j < i → R0 a m → E m j → ll_E re a j)
theorem ll_s6 {i : Nat} (h : i < 512) : nI i >>> ((6 : Int32) &&& 31) = nI (i / 64) := pk_shrN (by omega) _ 6 (by decide)
theorem ll_s3 {i : Nat} (h : i < 512) : nI i >>> ((3 : Int32) &&& 31) = nI (i / 8) := pk_shrN (by omega) _ 3 (by decide)
theorem ll_a7 {i : Nat} (h : i < 512) : nI i &&& 7 = nI (i % 8) := pk_andN (by omega) 3 (by decide)
section
variable {nl nt cl se vd lk rc vy : Int32} {op ar ln en so lv lw ed pa re fp fc dp hd hc hy cy fp' fc' dp' : Nat → Int32}
theorem ly_cp {post : Int32 → SY → Prop} (B : ll_B ed) (hp : ∃ n, wY_check_141 post nl nt cl se vd rc n 0 op ar ln en so ed (ll_cp 64 ed re) lv hd hc fp fc dp) : ∀ (r n k : Nat), k + r = 64 → r < n → wY_check_115 post nl nt cl se vd rc n (nI k) op ar ln en so ed (ll_cp k ed re) lv hd hc fp fc dp := by
  intro r
  induction r with
  | zero =>
    intro n k hk hn
    obtain ⟨n, rfl⟩ : ∃ m, n = m + 1 := ⟨n - 1, by omega⟩
    have e : k = 64 := by omega
    subst e
    exact pk_le 64 64 (fun _ => hp) (fun h => absurd h (by omega))
  | succ r ih =>
    intro n k hk hn
    obtain ⟨n, rfl⟩ : ∃ m, n = m + 1 := ⟨n - 1, by omega⟩
    have c1 : (nI k).toNatClampNeg = k := nI_clamp (by omega)
    have q := ih n (k + 1) (by omega) (by omega)
    have hi : vp_in (nI k) 64 := vp_in_nI (by omega) (by decide)
    exact pk_le 64 k (fun h => absurd h (by omega)) (fun _ => And.intro hi ⟨hi, nm_r (e' := ll_cp (k + 1) ed re) (by rw [c1, ll_bn (B k), ll_cp_s]) (nm_r (nI_1 k) q)⟩)
theorem ll_Qn {L i : Nat} {E R0 : Nat → Nat → Prop} (I : ll_Q L E R0 i re) (h : ∀ a m j, a < 8 → m < 8 → j < 8 → a * 64 + m * 8 + j = i → R0 a m → E m j → ll_E re a j) : ll_Q L E R0 (i + 1) re := by
  refine ⟨I.1, I.2.1, fun a m j ha hm hj hlt r0 e => ?_⟩
  by_cases x : a * 64 + m * 8 + j = i
  · exact h a m j ha hm hj x r0 e
  · exact I.2.2 a m j ha hm hj (by omega) r0 e
theorem ll_Eu {x y : Nat} (hx : x < 8) (hy : y < 8) {a b : Nat} : ll_E (upd re (x * 8 + y) 1) a b ↔ (ll_E re a b ∨ (a = x ∧ b = y)) := by
  constructor
  · intro h
    by_cases e : a * 8 + b = x * 8 + y
    · have := h.1
      have := h.2.1
      exact Or.inr ⟨by omega, by omega⟩
    · refine Or.inl ⟨h.1, h.2.1, ?_⟩
      have q := h.2.2
      rw [pk_un e] at q
      exact q
  · rintro (h | ⟨rfl, rfl⟩)
    · refine ⟨h.1, h.2.1, ?_⟩
      by_cases e : a * 8 + b = x * 8 + y
      · rw [e, pk_us]; exact ll_1n0
      · rw [pk_un e]; exact h.2.2
    · exact ⟨hx, hy, by rw [pk_us]; exact ll_1n0⟩
theorem ll_Qu {L i x m y : Nat} {E R0 : Nat → Nat → Prop} (hE : ∀ a b, E a b → a < L ∧ b < L) (hx : x < 8) (hy : y < 8) (I : ll_Q L E R0 i re) (h1 : ll_E re x m) (h2 : E m y) (hi : i = x * 64 + m * 8 + y) : ll_Q L E R0 (i + 1) (upd re (x * 8 + y) 1) := by
  refine ⟨fun a b r0 => (ll_Eu hx hy).mpr (Or.inl (I.1 a b r0)), fun a b e => ?_, fun a m' j ha hm hj hlt r0 e => ?_⟩
  · rcases (ll_Eu hx hy).mp e with q | ⟨rfl, rfl⟩
    · exact I.2.1 a b q
    · exact gr_trans L (hE m b h2).1 (I.2.1 a m h1) (gr_base L h2)
  · by_cases z : a * 64 + m' * 8 + j = i
    · have := h1.2.1
      exact (ll_Eu hx hy).mpr (Or.inr ⟨by omega, by omega⟩)
    · exact (ll_Eu hx hy).mpr (Or.inl (I.2.2 a m' j ha hm hj (by omega) r0 e))
theorem ly_149 {post : Int32 → SY → Prop} {L q : Nat} {R0 : Nat → Nat → Prop} {J : Int32 → (Nat → Int32) → (Nat → Int32) → (Nat → Int32) → (Nat → Int32) → (Nat → Int32) → (Nat → Int32) → (Nat → Int32) → (Nat → Int32) → (Nat → Int32) → (Nat → Int32) → (Nat → Int32) → (Nat → Int32) → (Nat → Int32) → Prop} (hE : ∀ a b, ll_E ed a b → a < L ∧ b < L) (hJ : ∀ re', ll_Q L (ll_E ed) R0 512 re' → J (nI (q + 1)) op ar ln en so ed re' lv hd hc fp fc dp) : ∀ (r n i : Nat) (re : Nat → Int32), i + r = 512 → r < n → ll_Q L (ll_E ed) R0 i re → wY_check_149 post J (nI q) nl nt cl se vd rc n (nI i) op ar ln en so ed re lv hd hc fp fc dp := by
  intro r
  induction r with
  | zero =>
    intro n i re hi hn I
    obtain ⟨n, rfl⟩ : ∃ m, n = m + 1 := ⟨n - 1, by omega⟩
    have e : i = 512 := by omega
    subst e
    exact pk_le 512 512 (fun _ => nm_r (nI_1 q) (hJ re I)) (fun h => absurd h (by omega))
  | succ r ih =>
    intro n i re hi hn I
    obtain ⟨n, rfl⟩ : ∃ m, n = m + 1 := ⟨n - 1, by omega⟩
    obtain ⟨x, m, y, hx, hm, hy, rfl⟩ : ∃ x m y, x < 8 ∧ m < 8 ∧ y < 8 ∧ i = x * 64 + m * 8 + y := ⟨i / 64, i / 8 % 8, i % 8, by omega, by omega, by omega, by omega⟩
    have e1 : nI (x * 64 + m * 8 + y) >>> ((6 : Int32) &&& 31) = nI x := (ll_s6 (by omega)).trans (congrArg nI (by omega))
    have e2 : (nI (x * 64 + m * 8 + y) >>> ((3 : Int32) &&& 31)) &&& 7 = nI m := by
      rw [ll_s3 (by omega), ll_a7 (by omega)]
      exact congrArg nI (by omega)
    have e3 : nI (x * 64 + m * 8 + y) &&& 7 = nI y := (ll_a7 (by omega)).trans (congrArg nI (by omega))
    have c1 : (nI (x * 8 + m)).toNatClampNeg = x * 8 + m := nI_clamp (by omega)
    have c2 : (nI (m * 8 + y)).toNatClampNeg = m * 8 + y := nI_clamp (by omega)
    have c3 : (nI (x * 8 + y)).toNatClampNeg = x * 8 + y := nI_clamp (by omega)
    refine pk_le 512 (x * 64 + m * 8 + y) (fun h => absurd h (by omega)) (fun _ => nm_r e1 (nm_r e2 (nm_r e3 ?_)))
    rw [ll_cel x m, ll_cel m y, ll_cel x y, c1, c2, c3]
    refine ⟨vp_in_nI (by omega) (by decide), ?_⟩
    by_cases z : re (x * 8 + m) = 0
    · refine br_t z (nm_r (nI_1 _) (ih n (x * 64 + m * 8 + y + 1) re (by omega) (by omega) (ll_Qn I (fun a m' j ha hm' hj e r0 _ => ?_))))
      have xa : a = x := by omega
      have xm : m' = m := by omega
      rw [xa, xm] at r0
      exact absurd z (I.1 x m r0).2.2
    · refine br_f z ⟨vp_in_nI (by omega) (by decide), ?_⟩
      by_cases z2 : ed (m * 8 + y) = 0
      · refine br_t z2 (nm_r (nI_1 _) (ih n (x * 64 + m * 8 + y + 1) re (by omega) (by omega) (ll_Qn I (fun a m' j ha hm' hj e _ r1 => ?_))))
        have xm : m' = m := by omega
        have xy : j = y := by omega
        rw [xm, xy] at r1
        exact absurd z2 r1.2.2
      · exact br_f z2 ⟨vp_in_nI (by omega) (by decide), nm_r (e' := upd re (x * 8 + y) 1) (by rw [ll_b1]) (nm_r (nI_1 _) (ih n (x * 64 + m * 8 + y + 1) _ (by omega) (by omega) (ll_Qu hE hx hy I ⟨hx, hm, z⟩ ⟨hm, hy, z2⟩ rfl)))⟩
theorem ly_141 {post : Int32 → SY → Prop} {L : Nat} (hL : L ≤ 8) (hE : ∀ a b, ll_E ed a b → a < L ∧ b < L) (hp : ∀ re', (∀ a b, a < 8 → b < 8 → (¬ re' (a * 8 + b) = 0 ↔ gr_P (ll_E ed) L a b)) → ∃ n, wY_check_241 post nl nt cl se rc op ar ln en so ed re' lv hd hc fp fc dp n 0 0) : ∀ (r n q : Nat) (re : Nat → Int32), q + r = 8 → r < n → (∀ a b, ll_E ed a b → ll_E re a b) → (∀ a b, ll_E re a b → gr_P (ll_E ed) L a b) → gr_done (ll_E ed) L (ll_E re) q → wY_check_141 post nl nt cl se vd rc n (nI q) op ar ln en so ed re lv hd hc fp fc dp := by
  intro r
  induction r with
  | zero =>
    intro n q re hq hn h1 h2 h3
    obtain ⟨n, rfl⟩ : ∃ m, n = m + 1 := ⟨n - 1, by omega⟩
    have e : q = 8 := by omega
    subst e
    exact pk_le 8 8 (fun _ => hp re (fun a b ha hb => ⟨fun z => h2 a b ⟨ha, hb, z⟩, fun z => (gr_done8 h3 a b ha z).2.2⟩)) (fun h => absurd h (by omega))
  | succ r ih =>
    intro n q re hq hn h1 h2 h3
    obtain ⟨n, rfl⟩ : ∃ m, n = m + 1 := ⟨n - 1, by omega⟩
    refine pk_le 8 q (fun h => absurd h (by omega)) (fun _ => ?_)
    refine ⟨513, ly_149 (R0 := ll_E re) hE (fun re' I => ?_) 512 513 0 re (by omega) (by omega) ⟨fun _ _ z => z, h2, fun _ _ _ _ _ _ z => absurd z (by omega)⟩⟩
    refine ih n (q + 1) re' (by omega) (by omega) (fun a b z => I.1 a b (h1 a b z)) I.2.1 ?_
    refine gr_doneS (R := ll_E re) (fun a b z => ⟨z.1, z.2.1⟩) h3 h1 I.1 (fun i m j z1 z2 => ?_)
    have := z1.1
    have := z1.2.1
    have := z2.2.1
    exact I.2.2 i m j z1.1 z1.2.1 z2.2.1 (by omega) z1 z2
theorem ly_reach {post : Int32 → SY → Prop} {L : Nat} (hL : L ≤ 8) (B : ll_EB L ed) (hp : ∀ re', (∀ a b, a < 8 → b < 8 → (¬ re' (a * 8 + b) = 0 ↔ gr_P (ll_E ed) L a b)) → ∃ n, wY_check_241 post nl nt cl se rc op ar ln en so ed re' lv hd hc fp fc dp n 0 0) : ∃ n, wY_check_115 post nl nt cl se vd rc n 0 op ar ln en so ed re lv hd hc fp fc dp := by
  have hcp : ∀ a b, ll_E (ll_cp 64 ed re) a b ↔ ll_E ed a b := by
    intro a b
    constructor
    · intro h
      have h1 := h.1
      have h2 := h.2.1
      have h3 := h.2.2
      rw [ll_cp_t (by omega)] at h3
      exact ⟨h1, h2, h3⟩
    · intro h
      have h1 := h.1
      have h2 := h.2.1
      exact ⟨h1, h2, by rw [ll_cp_t (by omega)]; exact h.2.2⟩
  have q := ly_cp (post := post) (nl := nl) (nt := nt) (cl := cl) (se := se) (vd := vd) (rc := rc) (op := op) (ar := ar) (ln := ln) (en := en) (so := so) (ed := ed) (re := re) (lv := lv) (hd := hd) (hc := hc) (fp := fp) (fc := fc) (dp := dp) B.1 ⟨9, ly_141 hL (ll_Edom B) hp 8 9 0 (ll_cp 64 ed re) (by omega) (by omega) (fun a b z => (hcp a b).mpr z) (fun a b z => gr_base L ((hcp a b).mp z)) (gr_done0 L (fun a b z => ⟨z.1, z.2.1⟩) (fun a b z => (hcp a b).mpr z))⟩ 64 65 0 (by omega) (by omega)
  rw [ll_cp_0] at q
  exact ⟨65, q⟩
theorem ly_241a {post : Int32 → SY → Prop} (h : ∀ l, l < 8 → re (l * 8 + l) = 0) (hp : ∃ n, wY_check_281 post nl nt cl se 0 rc n 0 op ar ln en so ed re lv hd hc fp fc dp) : ∀ (r n k : Nat), k + r = 8 → r < n → wY_check_241 post nl nt cl se rc op ar ln en so ed re lv hd hc fp fc dp n (nI k) 0 := by
  intro r
  induction r with
  | zero =>
    intro n k hk hn
    obtain ⟨n, rfl⟩ : ∃ m, n = m + 1 := ⟨n - 1, by omega⟩
    have e : k = 8 := by omega
    subst e
    exact pk_le 8 8 (fun _ => br_t rfl hp) (fun h => absurd h (by omega))
  | succ r ih =>
    intro n k hk hn
    obtain ⟨n, rfl⟩ : ∃ m, n = m + 1 := ⟨n - 1, by omega⟩
    have c1 : (nI (k * 8 + k)).toNatClampNeg = k * 8 + k := nI_clamp (by omega)
    refine pk_le 8 k (fun h => absurd h (by omega)) (fun _ => ?_)
    rw [ll_cel k k, c1]
    exact And.intro (vp_in_nI (by omega) (by decide)) (br_t (h k (by omega)) (nm_r (nI_1 k) (ih n (k + 1) (by omega) (by omega))))
theorem ly_241c {post : Int32 → SY → Prop} (hp : wY_check_362 post nl nt cl se 1 rc op ar ln en so ed re lv hd hc fp fc dp) : ∀ (r n k : Nat) (v : Int32), k + r = 8 → r < n → (v = 1 ∨ ∃ l, k ≤ l ∧ l < 8 ∧ ¬ re (l * 8 + l) = 0) → wY_check_241 post nl nt cl se rc op ar ln en so ed re lv hd hc fp fc dp n (nI k) v := by
  intro r
  induction r with
  | zero =>
    intro n k v hk hn h
    obtain ⟨n, rfl⟩ : ∃ m, n = m + 1 := ⟨n - 1, by omega⟩
    have e : k = 8 := by omega
    subst e
    have hv : v = 1 := by
      rcases h with h | ⟨l, h1, h2, _⟩
      · exact h
      · omega
    subst hv
    exact pk_le 8 8 (fun _ => br_f ll_1n0 hp) (fun h => absurd h (by omega))
  | succ r ih =>
    intro n k v hk hn h
    obtain ⟨n, rfl⟩ : ∃ m, n = m + 1 := ⟨n - 1, by omega⟩
    have c1 : (nI (k * 8 + k)).toNatClampNeg = k * 8 + k := nI_clamp (by omega)
    refine pk_le 8 k (fun h => absurd h (by omega)) (fun _ => ?_)
    rw [ll_cel k k, c1]
    refine And.intro (vp_in_nI (by omega) (by decide)) ?_
    by_cases z : re (k * 8 + k) = 0
    · refine br_t z (nm_r (nI_1 k) (ih n (k + 1) v (by omega) (by omega) ?_))
      rcases h with h | ⟨l, h1, h2, h3⟩
      · exact Or.inl h
      · have x : l ≠ k := fun x => h3 (by rw [x]; exact z)
        exact Or.inr ⟨l, by omega, h2, h3⟩
    · exact br_f z (nm_r (nI_1 k) (ih n (k + 1) 1 (by omega) (by omega) (Or.inl rfl)))
theorem ly_289 {post : Int32 → SY → Prop} {L q i0 : Nat} {J : Int32 → (Nat → Int32) → (Nat → Int32) → (Nat → Int32) → (Nat → Int32) → (Nat → Int32) → (Nat → Int32) → (Nat → Int32) → (Nat → Int32) → (Nat → Int32) → (Nat → Int32) → (Nat → Int32) → (Nat → Int32) → (Nat → Int32) → Prop} (hL : L ≤ 8) (hE : ∀ a b, ll_E ed a b → a < L ∧ b < L) (hac : ∀ x, ¬ gr_P (ll_E ed) L x x) (hJ : ∀ lv' lev', (∀ j, j < 8 → lv' j = nI (lev' j)) → gr_LI (ll_E ed) L (q + 1) (fun _ _ => False) lev' → J (nI (i0 + 1)) op ar ln en so ed re lv' hd hc fp fc dp) : ∀ (r n i : Nat) (lv : Nat → Int32) (lev : Nat → Nat), i + r = 64 → r < n → (∀ j, j < 8 → lv j = nI (lev j)) → gr_LI (ll_E ed) L q (fun x y => x * 8 + y < i) lev → wY_check_289 post J (nI i0) nl nt cl se vd rc n (nI i) op ar ln en so ed re lv hd hc fp fc dp := by
  intro r
  induction r with
  | zero =>
    intro n i lv lev hi hn hl I
    obtain ⟨n, rfl⟩ : ∃ m, n = m + 1 := ⟨n - 1, by omega⟩
    have e : i = 64 := by omega
    subst e
    exact pk_le 64 64 (fun _ => nm_r (nI_1 i0) (hJ lv lev hl (gr_LInext I (fun x y e => by
      have := e.1
      have := e.2.1
      show x * 8 + y < 64
      omega)))) (fun h => absurd h (by omega))
  | succ r ih =>
    intro n i lv lev hi hn hl I
    obtain ⟨n, rfl⟩ : ∃ m, n = m + 1 := ⟨n - 1, by omega⟩
    obtain ⟨a, b, ha, hb, rfl⟩ : ∃ a b, a < 8 ∧ b < 8 ∧ i = a * 8 + b := ⟨i / 8, i % 8, by omega, by omega, by omega⟩
    have e1 : nI (a * 8 + b) >>> ((3 : Int32) &&& 31) = nI a := (ll_s3 (by omega)).trans (congrArg nI (by omega))
    have e2 : nI (a * 8 + b) &&& 7 = nI b := (ll_a7 (by omega)).trans (congrArg nI (by omega))
    have c1 : (nI (a * 8 + b)).toNatClampNeg = a * 8 + b := nI_clamp (by omega)
    have c2 : (nI a).toNatClampNeg = a := nI_clamp (by omega)
    have c3 : (nI b).toNatClampNeg = b := nI_clamp (by omega)
    have hia : vp_in (nI a) 8 := vp_in_nI ha (by decide)
    have hib : vp_in (nI b) 8 := vp_in_nI hb (by decide)
    have hD : ∀ x y, x * 8 + y < a * 8 + b + 1 → x < 8 ∧ y < 8 → x * 8 + y < a * 8 + b ∨ (x = a ∧ y = b) := by
      intro x y h1 h2
      omega
    have lb : lev b ≤ 8 := Nat.le_trans (I.1 b) (Nat.le_trans (gr_cle _ L) hL)
    have la : lev a ≤ 8 := Nat.le_trans (I.1 a) (Nat.le_trans (gr_cle _ L) hL)
    have dom : ∀ x y, ll_E ed x y → x * 8 + y < a * 8 + b + 1 → (x * 8 + y < a * 8 + b + 1 ∧ x < 8 ∧ y < 8) := fun x y e d => ⟨d, e.1, e.2.1⟩
    refine pk_le 64 (a * 8 + b) (fun h => absurd h (by omega)) (fun _ => nm_r e1 (nm_r e2 ?_))
    rw [c1, c2, c3, hl a ha, hl b hb, nI_1 (lev a)]
    refine ⟨vp_in_nI (by omega) (by decide), ?_⟩
    by_cases z : ed (a * 8 + b) = 0
    · exact br_t z (nm_r (nI_1 _) (ih n (a * 8 + b + 1) lv lev (by omega) (by omega) hl (gr_LIsub (gr_LIno (D' := fun x y => x * 8 + y < a * 8 + b + 1 ∧ x < 8 ∧ y < 8) a b I (fun e => absurd z e.2.2) (fun x y d => hD x y d.1 d.2)) dom)))
    · have e : ll_E ed a b := ⟨ha, hb, z⟩
      refine br_f z ⟨hia, hib, pk_le (lev a + 1) (lev b) (fun h => ?_) (fun h => ?_)⟩
      · exact nm_r (nI_1 _) (ih n (a * 8 + b + 1) lv lev (by omega) (by omega) hl (gr_LIsub (gr_LIno (D' := fun x y => x * 8 + y < a * 8 + b + 1 ∧ x < 8 ∧ y < 8) a b I (fun _ => h) (fun x y d => hD x y d.1 d.2)) dom))
      · refine ⟨hia, hib, nm_e (nm_r (nI_1 _) (ih n (a * 8 + b + 1) (upd lv b (nI (lev a + 1))) (fun j => if j = b then lev a + 1 else lev j) (by omega) (by omega) (fun j hj => ?_) (gr_LIsub (gr_LIup (D' := fun x y => x * 8 + y < a * 8 + b + 1 ∧ x < 8 ∧ y < 8) hE hac a b I e (by omega) (fun x y d => hD x y d.1 d.2) _ (if_pos rfl) (fun j hj => if_neg hj)) dom)))⟩
        by_cases x : j = b
        · rw [x, pk_us, if_pos rfl]
        · rw [pk_un x, if_neg x]
          exact hl j hj
theorem ly_281 {post : Int32 → SY → Prop} {L : Nat} (hL : L ≤ 8) (hE : ∀ a b, ll_E ed a b → a < L ∧ b < L) (hac : ∀ x, ¬ gr_P (ll_E ed) L x x) (hp : ∀ lv' lev', (∀ j, j < 8 → lv' j = nI (lev' j)) → gr_LI (ll_E ed) L 8 (fun _ _ => False) lev' → wY_check_362 post nl nt cl se vd rc op ar ln en so ed re lv' hd hc fp fc dp) : ∀ (r n q : Nat) (lv : Nat → Int32) (lev : Nat → Nat), q + r = 8 → r < n → (∀ j, j < 8 → lv j = nI (lev j)) → gr_LI (ll_E ed) L q (fun _ _ => False) lev → wY_check_281 post nl nt cl se vd rc n (nI q) op ar ln en so ed re lv hd hc fp fc dp := by
  intro r
  induction r with
  | zero =>
    intro n q lv lev hq hn hl I
    obtain ⟨n, rfl⟩ : ∃ m, n = m + 1 := ⟨n - 1, by omega⟩
    have e : q = 8 := by omega
    subst e
    exact pk_le 8 8 (fun _ => hp lv lev hl I) (fun h => absurd h (by omega))
  | succ r ih =>
    intro n q lv lev hq hn hl I
    obtain ⟨n, rfl⟩ : ∃ m, n = m + 1 := ⟨n - 1, by omega⟩
    refine pk_le 8 q (fun h => absurd h (by omega)) (fun _ => ?_)
    exact ⟨65, ly_289 (q := q) hL hE hac (fun lv' lev' hl' I' => ih n (q + 1) lv' lev' (by omega) (by omega) hl' I') 64 65 0 lv lev (by omega) (by omega) hl (gr_LIsub I (fun _ _ _ d => absurd d (by omega)))⟩
theorem ly_long0 {post : Int32 → SY → Prop} {T : Nat} (hT : T ≤ 4) (hs : ∀ s, s < T → ∃ m, m ≤ 512 ∧ so s = nI m) (hp : ∃ n, wY_check_115 post nl (nI T) cl se vd rc n 0 op ar ln en so ed re lv hd hc fp fc dp) : ∀ (r n k : Nat), k + r = T → r < n → wY_check_52 post nl (nI T) cl se vd rc op ar ln en so ed re lv hd hc fp fc dp n 0 (nI k) := by
  intro r
  induction r with
  | zero =>
    intro n k hk hn
    obtain ⟨n, rfl⟩ : ∃ m, n = m + 1 := ⟨n - 1, by omega⟩
    have e : k = T := by omega
    subst e
    exact pk_le k k (fun _ => br_t rfl hp) (fun h => absurd h (by omega))
  | succ r ih =>
    intro n k hk hn
    obtain ⟨n, rfl⟩ : ∃ m, n = m + 1 := ⟨n - 1, by omega⟩
    obtain ⟨m, hm, e⟩ := hs k (by omega)
    have c1 : (nI k).toNatClampNeg = k := nI_clamp (by omega)
    exact pk_le T k (fun h => absurd h (by omega)) (fun _ => And.intro (vp_in_nI (by omega) (by decide)) (pk_eq m 513 (fun h => absurd h (by omega)) (fun _ => nm_r (nI_1 k) (ih n (k + 1) (by omega) (by omega))) (by rw [c1]; exact e)))
theorem ly_long1 {post : Int32 → SY → Prop} {T : Nat} (hT : T ≤ 4) (hs : ∀ s, s < T → ∃ m, m ≤ 513 ∧ so s = nI m) (hp : ∃ n, wY_check_86 post nl (nI T) cl se vd rc n 0 op ar ln en so ed re lv hd hc fp fc dp) : ∀ (r n k : Nat) (v : Int32), k + r = T → r < n → (v = 1 ∨ ∃ s, k ≤ s ∧ s < T ∧ so s = nI 513) → wY_check_52 post nl (nI T) cl se vd rc op ar ln en so ed re lv hd hc fp fc dp n v (nI k) := by
  intro r
  induction r with
  | zero =>
    intro n k v hk hn h
    obtain ⟨n, rfl⟩ : ∃ m, n = m + 1 := ⟨n - 1, by omega⟩
    have e : k = T := by omega
    subst e
    have hv : v = 1 := by
      rcases h with h | ⟨s, h1, h2, _⟩
      · exact h
      · omega
    subst hv
    exact pk_le k k (fun _ => br_f ll_1n0 hp) (fun h => absurd h (by omega))
  | succ r ih =>
    intro n k v hk hn h
    obtain ⟨n, rfl⟩ : ∃ m, n = m + 1 := ⟨n - 1, by omega⟩
    obtain ⟨m, hm, e⟩ := hs k (by omega)
    have c1 : (nI k).toNatClampNeg = k := nI_clamp (by omega)
    refine pk_le T k (fun h => absurd h (by omega)) (fun _ => And.intro (vp_in_nI (by omega) (by decide)) (pk_eq m 513 (fun _ => nm_r (nI_1 k) (ih n (k + 1) 1 (by omega) (by omega) (Or.inl rfl))) (fun hm' => nm_r (nI_1 k) (ih n (k + 1) v (by omega) (by omega) ?_)) (by rw [c1]; exact e)))
    rcases h with h | ⟨s, h1, h2, h3⟩
    · exact Or.inl h
    · have x : s ≠ k := by
        intro x
        rw [x, e, nI_eq (by omega) (by omega)] at h3
        omega
      exact Or.inr ⟨s, by omega, h2, h3⟩
theorem ly_clr {post : Int32 → SY → Prop} (hp : wY_check_362 post nl nt cl se 2 rc op ar ln en so (ll_fl 64 ed 0) re lv hd hc fp fc dp) : ∀ (r n k : Nat), k + r = 64 → r < n → wY_check_86 post nl nt cl se vd rc n (nI k) op ar ln en so (ll_fl k ed 0) re lv hd hc fp fc dp := by
  intro r
  induction r with
  | zero =>
    intro n k hk hn
    obtain ⟨n, rfl⟩ : ∃ m, n = m + 1 := ⟨n - 1, by omega⟩
    have e : k = 64 := by omega
    subst e
    exact pk_le 64 64 (fun _ => hp) (fun h => absurd h (by omega))
  | succ r ih =>
    intro n k hk hn
    obtain ⟨n, rfl⟩ : ∃ m, n = m + 1 := ⟨n - 1, by omega⟩
    have c1 : (nI k).toNatClampNeg = k := nI_clamp (by omega)
    have q := ih n (k + 1) (by omega) (by omega)
    have hi : vp_in (nI k) 64 := vp_in_nI (by omega) (by decide)
    exact pk_le 64 k (fun h => absurd h (by omega)) (fun _ => And.intro hi (nm_r (e' := ll_fl (k + 1) ed 0) (by rw [c1, ll_b0, ll_fl_s]) (nm_r (nI_1 k) q)))
theorem ly_verL {post : Int32 → SY → Prop} {T : Nat} (hT : T ≤ 4) (hs : ∀ s, s < T → ∃ m, m ≤ 513 ∧ so s = nI m) (h : ∃ s, s < T ∧ so s = nI 513) (hp : wY_check_362 post nl (nI T) cl se 2 rc op ar ln en so (ll_fl 64 ed 0) re lv hd hc fp fc dp) : ∃ n, wY_check_52 post nl (nI T) cl se vd rc op ar ln en so ed re lv hd hc fp fc dp n 0 0 := by
  obtain ⟨s, h1, h2⟩ := h
  have q := ly_clr (vd := vd) hp 64 65 0 (by omega) (by omega)
  rw [ll_fl_0] at q
  exact ⟨T + 1, ly_long1 hT hs ⟨65, q⟩ T (T + 1) 0 0 (by omega) (by omega) (Or.inr ⟨s, by omega, h1, h2⟩)⟩
theorem ly_verN {post : Int32 → SY → Prop} {L T : Nat} (hL : L ≤ 8) (hT : T ≤ 4) (hs : ∀ s, s < T → ∃ m, m ≤ 512 ∧ so s = nI m) (B : ll_EB L ed) (hl : ∀ j, j < 8 → lv j = 0)
    (hpC : ∀ re', (∀ a b, a < 8 → b < 8 → (¬ re' (a * 8 + b) = 0 ↔ gr_P (ll_E ed) L a b)) → (∃ l, gr_P (ll_E ed) L l l) → wY_check_362 post (nI L) (nI T) cl se 1 rc op ar ln en so ed re' lv hd hc fp fc dp)
    (hpA : ∀ re' lv' lev', (∀ x, ¬ gr_P (ll_E ed) L x x) → (∀ j, j < 8 → lv' j = nI (lev' j)) → gr_LI (ll_E ed) L 8 (fun _ _ => False) lev' → wY_check_362 post (nI L) (nI T) cl se 0 rc op ar ln en so ed re' lv' hd hc fp fc dp) : ∃ n, wY_check_52 post (nI L) (nI T) cl se vd rc op ar ln en so ed re lv hd hc fp fc dp n 0 0 := by
  refine ⟨T + 1, ly_long0 hT hs ?_ T (T + 1) 0 (by omega) (by omega)⟩
  refine ly_reach hL B (fun re' I => ?_)
  by_cases c : ∃ l, gr_P (ll_E ed) L l l
  · obtain ⟨l, hl'⟩ := c
    have hl8 := (gr_dom (L := 8) (fun a b (e : ll_E ed a b) => ⟨e.1, e.2.1⟩) L hl').1
    exact ⟨9, ly_241c (hpC re' I ⟨l, hl'⟩) 8 9 0 0 (by omega) (by omega) (Or.inr ⟨l, by omega, hl8, (I l l hl8 hl8).mpr hl'⟩)⟩
  · have hac : ∀ x, ¬ gr_P (ll_E ed) L x x := fun x q => c ⟨x, q⟩
    refine ⟨9, ly_241a (fun l hl' => ?_) ⟨9, ly_281 hL (ll_Edom B) hac (fun lv' lev' q1 q2 => hpA re' lv' lev' hac q1 q2) 8 9 0 lv (fun _ => 0) (by omega) (by omega) hl (gr_LI0 (ll_Edom B) hac (fun _ => rfl))⟩ 8 9 0 (by omega) (by omega)⟩
    by_cases x : re' (l * 8 + l) = 0
    · exact x
    · exact absurd ((I l l hl' hl').mp x) (hac l)
end
