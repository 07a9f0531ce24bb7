/-! the relation's parts; one instruction in lockstep -/
def ll_CI (L : Nat) (op ar ln : Nat → Int32) : Prop :=
  ∀ p, p < 8 → ∃ n, n ≤ 8 ∧ ln p = nI n ∧ ∀ i, i < n → (op (p * 8 + i) = 0 ∨ (op (p * 8 + i) = 1 ∧ ∃ a, a < L ∧ ar (p * 8 + i) = nI a) ∨ (op (p * 8 + i) = 2 ∧ ∃ a, a < L ∧ ar (p * 8 + i) = nI a) ∨ (op (p * 8 + i) = 3 ∧ ∃ a, p < a ∧ a < 8 ∧ ar (p * 8 + i) = nI a))
def ll_TO (ln fp fc dp : Nat → Int32) (t : Nat) : Prop :=
  ∃ d, d ≤ 8 ∧ dp t = nI d ∧ ll_FR ln fp fc (t * 8) d ∧ ll_sd ln fp fc (t * 8) d = d
def ll_TS (T : Nat) (ln fp fc dp : Nat → Int32) : Prop :=
  (∀ t, t < T → ll_TO ln fp fc dp t) ∧ (∀ t, T ≤ t → t < 4 → dp t = 0)
/-- locks: X's holders and counts, then the reference's -/
def ll_LK (L T : Nat) (hx cx hy cy : Nat → Int32) : Prop :=
  (∀ l, l < L → hy l = hx l ∧ cy l = cx l ∧ ((hx l = -1 ∧ cx l = 0) ∨ ∃ s, s < T ∧ hx l = nI s)) ∧ (∀ l, L ≤ l → l < 8 → hy l = -1)
/-- locks in a solo run of t after k instructions -/
def ll_SK (L t k : Nat) (hx cx hy cy : Nat → Int32) : Prop :=
  (∀ l, l < L → hy l = hx l ∧ cy l = cx l ∧ ((hx l = -1 ∧ cx l = 0) ∨ (hx l = nI t ∧ ∃ q, 1 ≤ q ∧ q ≤ k ∧ cx l = nI q))) ∧ (∀ l, L ≤ l → l < 8 → hy l = -1)
section
variable {nl nt cl se vd lk rc vy : Int32} {op ar ln en so lv lw ed pa re fp fc dp hd hc hy cy fp' fc' dp' : Nat → Int32}
theorem ll_sd_cg {b : Nat} : ∀ d, (∀ i, i < d → fp' (b + i) = fp (b + i) ∧ fc' (b + i) = fc (b + i)) → ll_sd ln fp' fc' b d = ll_sd ln fp fc b d := by
  intro d
  induction d with
  | zero => intro _; rfl
  | succ d ih =>
    intro h
    have q := ih (fun i hi => h i (by omega))
    have h1 := h d (by omega)
    show (if fc' (b + d) < ln (fp' (b + d)).toNatClampNeg then d + 1 else ll_sd ln fp' fc' b d) = (if fc (b + d) < ln (fp (b + d)).toNatClampNeg then d + 1 else ll_sd ln fp fc b d)
    rw [h1.1, h1.2, q]
theorem ll_TOo {s : Nat} (h : ll_TO ln fp fc dp s) (hf : ∀ i, i < 8 → fp' (s * 8 + i) = fp (s * 8 + i) ∧ fc' (s * 8 + i) = fc (s * 8 + i)) (hdp : dp' s = dp s) : ll_TO ln fp' fc' dp' s := by
  obtain ⟨d, h1, h2, h3, h4⟩ := h
  refine ⟨d, h1, by rw [hdp]; exact h2, fun i hi => ?_, ?_⟩
  · obtain ⟨p, c, n, e⟩ := h3 i hi
    have q := hf i (by omega)
    exact ⟨p, c, n, by rw [q.1]; exact e.1, e.2.1, e.2.2.1, by rw [q.2]; exact e.2.2.2.1, e.2.2.2.2⟩
  · rw [ll_sd_cg d (fun i hi => hf i (by omega))]
    exact h4
theorem ll_TOt {t d : Nat} (h8 : d ≤ 8) (hF : ll_FR ln fp fc (t * 8) d) : ll_TO ln fp fc (upd dp t (nI (ll_sd ln fp fc (t * 8) d))) t := by
  have h := ll_sd_le (ln := ln) (fp := fp) (fc := fc) (b := t * 8) d
  exact ⟨ll_sd ln fp fc (t * 8) d, by omega, pk_us, ll_FRle hF h, ll_sd_id d⟩
theorem ll_TSx {T t d : Nat} (S : ll_TS T ln fp fc dp) (ht : t < T) (hf : ∀ j, (∀ i, i < 8 → j ≠ t * 8 + i) → fp' j = fp j ∧ fc' j = fc j) (h8 : d ≤ 8) (hF : ll_FR ln fp' fc' (t * 8) d) : ll_TS T ln fp' fc' (upd dp t (nI (ll_sd ln fp' fc' (t * 8) d))) := by
  refine ⟨fun s hs => ?_, fun s hs h4 => ?_⟩
  · by_cases e : s = t
    · subst e
      exact ll_TOt h8 hF
    · exact ll_TOo (S.1 s hs) (fun i hi => hf _ (fun i' hi' => by omega)) (pk_un e)
  · rw [pk_un (by omega)]
    exact S.2 s hs h4
theorem ll_FRi {b e p c m : Nat} (hF : ll_FR ln fp fc b (e + 1)) (h1 : fp (b + e) = nI p) (hep : e ≤ p) (hp8 : p < 8) (hl : ln p = nI m) (hcm : c < m) (hm : m ≤ 8) : ll_FR ln fp (upd fc (b + e) (nI (c + 1))) b (e + 1) := by
  intro i hi
  by_cases x : i = e
  · subst x
    exact ⟨p, c + 1, m, h1, hep, hp8, pk_us, hl, by omega, hm⟩
  · rw [pk_un (show b + i ≠ b + e by omega)]
    exact hF i hi
theorem ll_FRc {b d a m : Nat} (hF : ll_FR ln fp fc b d) (hda : d ≤ a) (ha8 : a < 8) (hl : ln a = nI m) (hm : m ≤ 8) : ll_FR ln (upd fp (b + d) (nI a)) (upd fc (b + d) 0) b (d + 1) := by
  intro i hi
  by_cases x : i = d
  · subst x
    exact ⟨a, 0, m, pk_us, hda, ha8, pk_us, hl, by omega, hm⟩
  · rw [pk_un (show b + i ≠ b + d by omega), pk_un (show b + i ≠ b + d by omega)]
    exact hF i (by omega)
theorem ll_cur {t e : Nat} (h : ll_TO ln fp fc dp t) (hdp : dp t = nI (e + 1)) (he : e < 2 ^ 30) : e < 8 ∧ ll_FR ln fp fc (t * 8) (e + 1) ∧ ∃ p c m, fp (t * 8 + e) = nI p ∧ e ≤ p ∧ p < 8 ∧ fc (t * 8 + e) = nI c ∧ ln p = nI m ∧ c < m ∧ m ≤ 8 := by
  obtain ⟨d, h1, h2, h3, h4⟩ := h
  rw [hdp, nI_eq (by omega) (by omega)] at h2
  subst h2
  obtain ⟨p, c, m, e1, e2, e3, e4, e5, e6, e7⟩ := h3 e (by omega)
  refine ⟨by omega, h3, p, c, m, e1, e2, e3, e4, e5, ?_, e7⟩
  by_cases x : c < m
  · exact x
  · have q := ll_sd_f e1 e3 e4 e5 (by omega) e7
    have q2 := ll_sd_le (ln := ln) (fp := fp) (fc := fc) (b := t * 8) e
    omega
theorem ll_LKu {L T a : Nat} {x y : Int32} (h : ll_LK L T hd hc hy cy) (ha : a < L) (hx : (x = -1 ∧ y = 0) ∨ ∃ s, s < T ∧ x = nI s) : ll_LK L T (upd hd a x) (upd hc a y) (upd hy a x) (upd cy a y) := by
  refine ⟨fun l hl => ?_, fun l hl h8 => ?_⟩
  · by_cases e : l = a
    · subst e
      rw [pk_us, pk_us, pk_us, pk_us]
      exact ⟨rfl, rfl, hx⟩
    · rw [pk_un e, pk_un e, pk_un e, pk_un e]
      exact h.1 l hl
  · rw [pk_un (by omega)]
    exact h.2 l hl h8
theorem ll_SKu {L t k a : Nat} {x y : Int32} (h : ll_SK L t k hd hc hy cy) (ha : a < L) (hx : (x = -1 ∧ y = 0) ∨ (x = nI t ∧ ∃ q, 1 ≤ q ∧ q ≤ k + 1 ∧ y = nI q)) : ll_SK L t (k + 1) (upd hd a x) (upd hc a y) (upd hy a x) (upd cy a y) := by
  refine ⟨fun l hl => ?_, fun l hl h8 => ?_⟩
  · by_cases e : l = a
    · subst e
      rw [pk_us, pk_us, pk_us, pk_us]
      exact ⟨rfl, rfl, hx⟩
    · rw [pk_un e, pk_un e, pk_un e, pk_un e]
      refine ⟨(h.1 l hl).1, (h.1 l hl).2.1, ?_⟩
      rcases (h.1 l hl).2.2 with q | ⟨q1, q, q2, q3, q4⟩
      · exact Or.inl q
      · exact Or.inr ⟨q1, q, q2, by omega, q4⟩
  · rw [pk_un (by omega)]
    exact h.2 l hl h8
theorem ll_SKs {L t k : Nat} (h : ll_SK L t k hd hc hy cy) : ll_SK L t (k + 1) hd hc hy cy := by
  refine ⟨fun l hl => ?_, h.2⟩
  refine ⟨(h.1 l hl).1, (h.1 l hl).2.1, ?_⟩
  rcases (h.1 l hl).2.2 with q | ⟨q1, q, q2, q3, q4⟩
  · exact Or.inl q
  · exact Or.inr ⟨q1, q, q2, by omega, q4⟩
theorem ll_ae_cg {t : Int32} {a : Nat} : ∀ k, (∀ l, l < k → hy l = hd l) → ll_ae hy t a k ed = ll_ae hd t a k ed := by
  intro k
  induction k with
  | zero => intro _; rfl
  | succ k ih =>
    intro h
    show (if hy k = t then upd (ll_ae hy t a k ed) (k * 8 + a) 1 else ll_ae hy t a k ed) = (if hd k = t then upd (ll_ae hd t a k ed) (k * 8 + a) 1 else ll_ae hd t a k ed)
    rw [ih (fun l hl => h l (by omega)), h k (by omega)]
theorem ll_ae_up {t : Int32} {a L : Nat} : ∀ r, (∀ l, L ≤ l → l < L + r → ¬ hy l = t) → ll_ae hy t a (L + r) ed = ll_ae hy t a L ed := by
  intro r
  induction r with
  | zero => intro _; rfl
  | succ r ih =>
    intro h
    have e : ll_ae hy t a (L + r + 1) ed = ll_ae hy t a (L + r) ed := if_neg (h (L + r) (by omega) (by omega))
    rw [show L + (r + 1) = L + r + 1 from rfl, e, ih (fun l h1 h2 => h l h1 (by omega))]
theorem lm_exec {L T t e : Nat} (hL : L ≤ 8) (hT : T ≤ 4) (ht : t < T) (C : ll_CI L op ar ln) (S : ll_TS T ln fp fc dp) (K : ll_LK L T hd hc hy cy) (hdp : dp t = nI (e + 1)) (he : e < 8) (hfree : ∀ p c a, p < 8 → c < 8 → a < L → fp (t * 8 + e) = nI p → fc (t * 8 + e) = nI c → op (p * 8 + c) = 1 → ar (p * 8 + c) = nI a → hd a = -1 ∨ hd a = nI t) :
    ∃ fp' fc' dp' hd' hc' hy' cy', ll_TS T ln fp' fc' dp' ∧ ll_LK L T hd' hc' hy' cy' ∧ (∀ post : SX → Prop, post (nl, nt, cl, se, vd, lk, op, ar, ln, en, so, lv, ed, pa, fp', fc', dp', hd', hc') → wpX_execute post (nl, nt, cl, se, vd, lk, op, ar, ln, en, so, lv, ed, pa, fp, fc, dp, hd, hc) (nI t)) ∧ (∀ post : SY → Prop, post (nl, nt, cl, se, vy, 0, op, ar, ln, en, so, ed, re, lw, hy', cy', fp', fc', dp') → wpY_exec post (nl, nt, cl, se, vy, 0, op, ar, ln, en, so, ed, re, lw, hy, cy, fp, fc, dp) (nI t)) := by
  obtain ⟨he8, hF, p, c, m, h1, hep, hp8, h2, hl, hcm, hm⟩ := ll_cur (S.1 t ht) hdp (by omega)
  have hc8 : c < 8 := by omega
  have ht4 : t < 4 := by omega
  obtain ⟨m', hm', hl', hcode⟩ := C p hp8
  have em : m' = m := (nI_eq (by omega) (by omega)).mp (hl'.symm.trans hl)
  subst em
  have hF' := ll_FRi hF h1 hep hp8 hl hcm hm
  have S' : ll_TS T ln fp (upd fc (t * 8 + e) (nI (c + 1))) (upd dp t (nI (ll_sd ln fp (upd fc (t * 8 + e) (nI (c + 1))) (t * 8) (e + 1)))) :=
    ll_TSx S ht (fun j hj => ⟨rfl, pk_un (hj e he8)⟩) (by omega) hF'
  rcases hcode c hcm with ho | ⟨ho, a, haL, ha⟩ | ⟨ho, a, haL, ha⟩ | ⟨ho, a, hpa, ha8, ha⟩
  · exact ⟨_, _, _, _, _, _, _, S', K, fun post hp => lx_exN ht4 he8 hdp h1 hp8 h2 hc8 ho hF' hp, fun post hp => ly_exN ht4 he8 hdp h1 hp8 h2 hl hcm hm ho hF' hp⟩
  · have ha8 : a < 8 := by omega
    have k := K.1 a haL
    by_cases hn : hd a = nI t
    · have hn' : hy a = nI t := k.1.trans hn
      have K' := ll_LKu (x := nI t) (y := hc a + 1) K haL (Or.inr ⟨t, ht, rfl⟩)
      rw [ll_ui hy a _ hn', ← k.2.1] at K'
      rw [k.2.1] at K'
      refine ⟨_, _, _, _, _, _, _, S', K', fun post hp => lx_exA ht4 he8 hdp h1 hp8 h2 hc8 ho ha ha8 hF' hp, fun post hp => ly_exA1 ht4 he8 hdp h1 hp8 h2 hl hcm hm ho ha ha8 hn' hF' ?_⟩
      rw [k.2.1]
      exact hp
    · have hn' : ¬ hy a = nI t := fun q => hn (k.1.symm.trans q)
      have hf := hfree p c a hp8 hc8 haL h1 h2 ho ha
      have z : hd a = -1 ∧ hc a = 0 := by
        rcases k.2.2 with q | ⟨s, hs, q⟩
        · exact q
        · rcases hf with f | f
          · exact absurd (f.symm.trans q) (ll_m1 s (by omega))
          · exact absurd f hn
      have K' := ll_LKu (x := nI t) (y := 1) K haL (Or.inr ⟨t, ht, rfl⟩)
      refine ⟨_, _, _, _, _, _, _, S', K', fun post hp => lx_exA ht4 he8 hdp h1 hp8 h2 hc8 ho ha ha8 hF' ?_, fun post hp => ly_exA0 ht4 he8 hdp h1 hp8 h2 hl hcm hm ho ha ha8 hn' hF' hp⟩
      rw [z.2]
      exact hp
  · have ha8 : a < 8 := by omega
    have k := K.1 a haL
    by_cases hn : hd a = nI t
    · have hn' : hy a = nI t := k.1.trans hn
      by_cases z : hc a - 1 = 0
      · have K' := ll_LKu (x := -1) (y := hc a - 1) K haL (Or.inl ⟨rfl, z⟩)
        refine ⟨_, _, _, _, _, _, _, S', K', fun post hp => lx_exR1 ht4 he8 hdp h1 hp8 h2 hc8 ho ha ha8 hn hF' ?_, fun post hp => ly_exR1 ht4 he8 hdp h1 hp8 h2 hl hcm hm ho ha ha8 hn' hF' ?_⟩
        · rw [if_pos z]; exact hp
        · rw [k.2.1, if_pos z]; exact hp
      · have K' := ll_LKu (x := nI t) (y := hc a - 1) K haL (Or.inr ⟨t, ht, rfl⟩)
        rw [ll_ui hy a _ hn', ll_ui hd a _ hn] at K'
        refine ⟨_, _, _, _, _, _, _, S', K', fun post hp => lx_exR1 ht4 he8 hdp h1 hp8 h2 hc8 ho ha ha8 hn hF' ?_, fun post hp => ly_exR1 ht4 he8 hdp h1 hp8 h2 hl hcm hm ho ha ha8 hn' hF' ?_⟩
        · rw [if_neg z]; exact hp
        · rw [k.2.1, if_neg z]; exact hp
    · have hn' : ¬ hy a = nI t := fun q => hn (k.1.symm.trans q)
      exact ⟨_, _, _, _, _, _, _, S', K, fun post hp => lx_exR0 ht4 he8 hdp h1 hp8 h2 hc8 ho ha ha8 hn hF' hp, fun post hp => ly_exR0 ht4 he8 hdp h1 hp8 h2 hl hcm hm ho ha ha8 hn' hF' hp⟩
  · obtain ⟨ma, hma, hla, _⟩ := C a ha8
    have hF2 := ll_FRc (a := a) (m := ma) hF' (by omega) ha8 hla hma
    have S2 := ll_TSx (dp := dp) (d := e + 2) S ht (fun j hj => ⟨pk_un (hj (e + 1) (by omega)), by rw [pk_un (hj (e + 1) (by omega)), pk_un (hj e he8)]⟩) (by omega) hF2
    exact ⟨_, _, _, _, _, _, _, S2, K, fun post hp => lx_exC ht4 (by omega) hdp h1 hp8 h2 hc8 ho ha hF2 hp, fun post hp => ly_exC ht4 (by omega) hdp h1 hp8 h2 hl hcm hm ho ha hF2 hp⟩
theorem lm_solo1 {L T t e k : Nat} (hL : L ≤ 8) (hT : T ≤ 4) (hk : k ≤ 600) (ht : t < T) (C : ll_CI L op ar ln) (S : ll_TS T ln fp fc dp) (K : ll_SK L t k hd hc hy cy) (hdp : dp t = nI (e + 1)) (he : e < 8) :
    ∃ fp' fc' dp' hd' hc' hy' cy' ed', ll_TS T ln fp' fc' dp' ∧ ll_SK L t (k + 1) hd' hc' hy' cy' ∧ (ed' = ed ∨ ∃ a, a < L ∧ ed' = ll_ae hd (nI t) a L ed) ∧ (∀ post : SX → Prop, post (nI L, nt, cl, se, vd, lk, op, ar, ln, en, so, lv, ed', pa, fp, fc, dp, hd, hc) → wpX_addEdges post (nI L, nt, cl, se, vd, lk, op, ar, ln, en, so, lv, ed, pa, fp, fc, dp, hd, hc) (nI t)) ∧ (∀ post : SX → Prop, post (nI L, nt, cl, se, vd, lk, op, ar, ln, en, so, lv, ed', pa, fp', fc', dp', hd', hc') → wpX_execute post (nI L, nt, cl, se, vd, lk, op, ar, ln, en, so, lv, ed', pa, fp, fc, dp, hd, hc) (nI t)) ∧ (∀ post : SY → Prop, post (nI L, nt, cl, se, vy, 1, op, ar, ln, en, so, ed', re, lw, hy', cy', fp', fc', dp') → wpY_exec post (nI L, nt, cl, se, vy, 1, op, ar, ln, en, so, ed, re, lw, hy, cy, fp, fc, dp) (nI t)) := by
  obtain ⟨he8, hF, p, c, m, h1, hep, hp8, h2, hl, hcm, hm⟩ := ll_cur (S.1 t ht) hdp (by omega)
  have hc8 : c < 8 := by omega
  have ht4 : t < 4 := by omega
  obtain ⟨m', hm', hl', hcode⟩ := C p hp8
  have em : m' = m := (nI_eq (by omega) (by omega)).mp (hl'.symm.trans hl)
  subst em
  have hF' := ll_FRi hF h1 hep hp8 hl hcm hm
  have S' : ll_TS T ln fp (upd fc (t * 8 + e) (nI (c + 1))) (upd dp t (nI (ll_sd ln fp (upd fc (t * 8 + e) (nI (c + 1))) (t * 8) (e + 1)))) :=
    ll_TSx S ht (fun j hj => ⟨rfl, pk_un (hj e he8)⟩) (by omega) hF'
  rcases hcode c hcm with ho | ⟨ho, a, haL, ha⟩ | ⟨ho, a, haL, ha⟩ | ⟨ho, a, hpa, ha8, ha⟩
  · have ho1 : ¬ op (p * 8 + c) = 1 := by rw [ho]; decide
    exact ⟨_, _, _, _, _, _, _, ed, S', ll_SKs K, Or.inl rfl, fun post hp => lx_ae0 ht4 he8 hdp h1 hp8 h2 hc8 ho1 hp, fun post hp => lx_exN ht4 he8 hdp h1 hp8 h2 hc8 ho hF' hp, fun post hp => ly_exN ht4 he8 hdp h1 hp8 h2 hl hcm hm ho hF' hp⟩
  · have ha8 : a < 8 := by omega
    have k1 := K.1 a haL
    by_cases hn : hd a = nI t
    · have hn' : hy a = nI t := k1.1.trans hn
      obtain ⟨q, q1, q2, q3⟩ : ∃ q, 1 ≤ q ∧ q ≤ k ∧ hc a = nI q := by
        rcases k1.2.2 with z | z
        · exact absurd (z.1.symm.trans hn) (ll_m1 t (by omega))
        · exact z.2
      have K' := ll_SKu (x := nI t) (y := hc a + 1) K haL (Or.inr ⟨rfl, q + 1, by omega, by omega, by rw [q3, nI_1]⟩)
      rw [ll_ui hy a _ hn', ← k1.2.1] at K'
      rw [k1.2.1] at K'
      refine ⟨_, _, _, _, _, _, _, ed, S', K', Or.inl rfl, fun post hp => lx_ae1 ht4 he8 hdp h1 hp8 h2 hc8 ho ha ha8 hn hp, fun post hp => lx_exA ht4 he8 hdp h1 hp8 h2 hc8 ho ha ha8 hF' hp, fun post hp => ly_exA1 ht4 he8 hdp h1 hp8 h2 hl hcm hm ho ha ha8 hn' hF' ?_⟩
      rw [k1.2.1]
      exact hp
    · have hn' : ¬ hy a = nI t := fun q => hn (k1.1.symm.trans q)
      have z : hd a = -1 ∧ hc a = 0 := by
        rcases k1.2.2 with q | q
        · exact q
        · exact absurd q.1 hn
      have K' := ll_SKu (x := nI t) (y := 1) K haL (Or.inr ⟨rfl, 1, by omega, by omega, rfl⟩)
      have hcp : ∀ l, l < 8 → hy l = nI t → ¬ cy l ≤ 0 := by
        intro l hl8 hh
        by_cases x : l < L
        · rw [(K.1 l x).2.1]
          rw [(K.1 l x).1] at hh
          rcases (K.1 l x).2.2 with z | ⟨_, q, q1, q2, q3⟩
          · exact absurd (z.1.symm.trans hh) (ll_m1 t (by omega))
          · rw [q3]
            exact nI_nle (by omega) (by omega)
        · exact absurd ((K.2 l (by omega) hl8).symm.trans hh) (ll_m1 t (by omega))
      have hae : ll_ae hy (nI t) a 8 ed = ll_ae hd (nI t) a L ed := by
        obtain ⟨r, hr⟩ : ∃ r, 8 = L + r := ⟨8 - L, by omega⟩
        rw [hr, ll_ae_up r (fun l h1 h2 q => absurd ((K.2 l h1 (by omega)).symm.trans q) (ll_m1 t (by omega)))]
        exact ll_ae_cg L (fun l hl => (K.1 l hl).1)
      refine ⟨_, _, _, _, _, _, _, ll_ae hd (nI t) a L ed, S', K', Or.inr ⟨a, haL, rfl⟩, fun post hp => lx_ae2 hL ht4 he8 hdp h1 hp8 h2 hc8 ho ha ha8 hn hp, fun post hp => lx_exA ht4 he8 hdp h1 hp8 h2 hc8 ho ha ha8 hF' ?_, fun post hp => ly_exA2 ht4 he8 hdp h1 hp8 h2 hl hcm hm ho ha ha8 hn' hcp hF' ?_⟩
      · rw [z.2]
        exact hp
      · rw [hae]
        exact hp
  · have ho1 : ¬ op (p * 8 + c) = 1 := by rw [ho]; decide
    have ha8 : a < 8 := by omega
    have k1 := K.1 a haL
    by_cases hn : hd a = nI t
    · have hn' : hy a = nI t := k1.1.trans hn
      obtain ⟨q, q1, q2, q3⟩ : ∃ q, 1 ≤ q ∧ q ≤ k ∧ hc a = nI q := by
        rcases k1.2.2 with z | z
        · exact absurd (z.1.symm.trans hn) (ll_m1 t (by omega))
        · exact z.2
      obtain ⟨q', rfl⟩ : ∃ q', q = q' + 1 := ⟨q - 1, by omega⟩
      by_cases z : hc a - 1 = 0
      · have K' := ll_SKu (x := -1) (y := hc a - 1) K haL (Or.inl ⟨rfl, z⟩)
        refine ⟨_, _, _, _, _, _, _, ed, S', K', Or.inl rfl, fun post hp => lx_ae0 ht4 he8 hdp h1 hp8 h2 hc8 ho1 hp, fun post hp => lx_exR1 ht4 he8 hdp h1 hp8 h2 hc8 ho ha ha8 hn hF' ?_, fun post hp => ly_exR1 ht4 he8 hdp h1 hp8 h2 hl hcm hm ho ha ha8 hn' hF' ?_⟩
        · rw [if_pos z]; exact hp
        · rw [k1.2.1, if_pos z]; exact hp
      · have z' : 1 ≤ q' := by
          rw [q3, nI_pred] at z
          by_cases x : q' = 0
          · rw [x] at z; exact absurd rfl z
          · omega
        have K' := ll_SKu (x := nI t) (y := hc a - 1) K haL (Or.inr ⟨rfl, q', z', by omega, by rw [q3, nI_pred]⟩)
        rw [ll_ui hy a _ hn', ll_ui hd a _ hn] at K'
        refine ⟨_, _, _, _, _, _, _, ed, S', K', Or.inl rfl, fun post hp => lx_ae0 ht4 he8 hdp h1 hp8 h2 hc8 ho1 hp, fun post hp => lx_exR1 ht4 he8 hdp h1 hp8 h2 hc8 ho ha ha8 hn hF' ?_, fun post hp => ly_exR1 ht4 he8 hdp h1 hp8 h2 hl hcm hm ho ha ha8 hn' hF' ?_⟩
        · rw [if_neg z]; exact hp
        · rw [k1.2.1, if_neg z]; exact hp
    · have hn' : ¬ hy a = nI t := fun q => hn (k1.1.symm.trans q)
      exact ⟨_, _, _, _, _, _, _, ed, S', ll_SKs K, Or.inl rfl, fun post hp => lx_ae0 ht4 he8 hdp h1 hp8 h2 hc8 ho1 hp, fun post hp => lx_exR0 ht4 he8 hdp h1 hp8 h2 hc8 ho ha ha8 hn hF' hp, fun post hp => ly_exR0 ht4 he8 hdp h1 hp8 h2 hl hcm hm ho ha ha8 hn' hF' hp⟩
  · have ho1 : ¬ op (p * 8 + c) = 1 := by rw [ho]; decide
    obtain ⟨ma, hma, hla, _⟩ := C a ha8
    have hF2 := ll_FRc (a := a) (m := ma) hF' (by omega) ha8 hla hma
    have S2 := ll_TSx (dp := dp) (d := e + 2) S ht (fun j hj => ⟨pk_un (hj (e + 1) (by omega)), by rw [pk_un (hj (e + 1) (by omega)), pk_un (hj e he8)]⟩) (by omega) hF2
    exact ⟨_, _, _, _, _, _, _, ed, S2, ll_SKs K, Or.inl rfl, fun post hp => lx_ae0 ht4 he8 hdp h1 hp8 h2 hc8 ho1 hp, fun post hp => lx_exC ht4 (by omega) hdp h1 hp8 h2 hc8 ho ha hF2 hp, fun post hp => ly_exC ht4 (by omega) hdp h1 hp8 h2 hl hcm hm ho ha hF2 hp⟩
end
