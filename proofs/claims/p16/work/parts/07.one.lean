/-! one instruction against the stack picture; edges -/
section
variable {nl nt cl se vd lk : Int32} {op ar ln en so lv ed pa fp fc dp hd hc fp' fc' dp' hd' hc' : Nat → Int32}
theorem tk_aem {t : Int32} {a : Nat} : ∀ k j, ¬ ed j = 0 → ¬ ll_ae hd t a k ed j = 0 := by
  intro k
  induction k with
  | zero => intro j h; exact h
  | succ k ih =>
    intro j h
    by_cases z : hd k = t
    · have e : ll_ae hd t a (k + 1) ed = upd (ll_ae hd t a k ed) (k * 8 + a) 1 := if_pos z
      rw [e]
      by_cases x : j = k * 8 + a
      · rw [x, pk_us]; exact ll_1n0
      · rw [pk_un x]; exact ih j h
    · have e : ll_ae hd t a (k + 1) ed = ll_ae hd t a k ed := if_neg z
      rw [e]
      exact ih j h
theorem tk_aeh {t : Int32} {a l : Nat} (hl : hd l = t) : ∀ k, l < k → ¬ ll_ae hd t a k ed (l * 8 + a) = 0 := by
  intro k
  induction k with
  | zero => intro h; omega
  | succ k ih =>
    intro h
    by_cases x : l = k
    · have e : ll_ae hd t a (k + 1) ed = upd (ll_ae hd t a k ed) (k * 8 + a) 1 := if_pos (by rw [← x]; exact hl)
      rw [e, x, pk_us]
      exact ll_1n0
    · have q := ih (by omega)
      by_cases z : hd k = t
      · have e : ll_ae hd t a (k + 1) ed = upd (ll_ae hd t a k ed) (k * 8 + a) 1 := if_pos z
        rw [e, pk_un (by omega)]
        exact q
      · have e : ll_ae hd t a (k + 1) ed = ll_ae hd t a k ed := if_neg z
        rw [e]
        exact q
theorem tk_ECm {L : Nat} {ed' : Nat → Int32} {x : List (Nat × Nat) × (Nat → Nat)} (h : tk_EC L op ar ed x) (hm : ∀ j, ¬ ed j = 0 → ¬ ed' j = 0) : tk_EC L op ar ed' x :=
  fun p c s a e1 e2 e3 e4 e5 l hl hq => hm _ (h p c s a e1 e2 e3 e4 e5 l hl hq)
theorem tx_exec {L T t : Nat} {x : List (Nat × Nat) × (Nat → Nat)} (hL : L ≤ 8) (hT : T ≤ 4) (ht : t < T) (C : ll_CI L op ar ln) (S : ll_TS T ln fp fc dp) (R : tk_TR L t x fp fc dp hd hc) (hlen : x.1.length ≤ 8) (hb : ∀ l, x.2 l < 1000) (hne : ¬ x.1 = []) (hfree : ∀ p c s a, x.1 = (p, c) :: s → op (p * 8 + c) = 1 → ar (p * 8 + c) = nI a → a < L → hd a = nI t ∨ (hd a = -1 ∧ hc a = 0)) :
    ∃ fp' fc' dp' hd' hc', ll_TS T ln fp' fc' dp' ∧ tk_TR L t (tk_nx op ar ln x) fp' fc' dp' hd' hc' ∧ (∀ s, s ≠ t → dp' s = dp s ∧ ∀ i, i < 8 → fp' (s * 8 + i) = fp (s * 8 + i) ∧ fc' (s * 8 + i) = fc (s * 8 + i)) ∧ (∀ l, l < L → tk_ch t hd hc hd' hc' l) ∧ (∀ post : St2 → Prop, post (nl, nt, cl, se, vd, lk, op, ar, ln, en, so, lv, ed, pa, fp', fc', dp', hd', hc') → wpX_execute post (nl, nt, cl, se, vd, lk, op, ar, ln, en, so, lv, ed, pa, fp, fc, dp, hd, hc) (nI t)) := by
  obtain ⟨st, q⟩ := x
  cases st with
  | nil => exact absurd rfl hne
  | cons y s =>
    obtain ⟨p, c⟩ := y
    have hdp : dp t = nI (s.length + 1) := R.1
    have hq := R.2.2
    have hln : s.length + 1 ≤ 8 := hlen
    have ht4 : t < 4 := by omega
    obtain ⟨he8, hF, m, h1, hep, hp8, h2, hl, hcm, hm⟩ := tk_top S ht hdp (by omega) R.2.1
    have hc8 : c < 8 := by omega
    obtain ⟨m', hm', hl', hcode⟩ := C p hp8
    have em : m' = m := (nI_eq (by omega) (by omega)).mp (hl'.symm.trans hl)
    subst em
    have hF' := ll_FRi hF h1 hep hp8 hl hcm hm
    have S' : ll_TS T ln fp (upd fc (t * 8 + s.length) (nI (c + 1))) (upd dp t (nI (ll_sd ln fp (upd fc (t * 8 + s.length) (nI (c + 1))) (t * 8) (s.length + 1)))) :=
      ll_TSx S ht (fun j hj => ⟨rfl, pk_un (hj s.length he8)⟩) (by omega) hF'
    have r1 : tk_RS fp (upd fc (t * 8 + s.length) (nI (c + 1))) (t * 8) ((p, c + 1) :: s) := ⟨hp8, by omega, h1, pk_us, tk_RScg s (fun i hi => ⟨rfl, pk_un (by omega)⟩) R.2.1.2.2.2.2⟩
    have sd1 := tk_sd (ln := ln) ((p, c + 1) :: s) r1 hF'
    have oth : ∀ s', s' ≠ t → upd dp t (nI (ll_sd ln fp (upd fc (t * 8 + s.length) (nI (c + 1))) (t * 8) (s.length + 1))) s' = dp s' ∧ ∀ i, i < 8 → fp (s' * 8 + i) = fp (s' * 8 + i) ∧ upd fc (t * 8 + s.length) (nI (c + 1)) (s' * 8 + i) = fc (s' * 8 + i) := fun s' hs' => ⟨pk_un hs', fun i hi => ⟨rfl, pk_un (by omega)⟩⟩
    rcases hcode c hcm with ho | ⟨ho, a, haL, ha⟩ | ⟨ho, a, haL, ha⟩ | ⟨ho, a, hpa, ha8, ha⟩
    · refine ⟨_, _, _, _, _, S', ?_, oth, fun l _ => Or.inl ⟨rfl, rfl⟩, fun post hp => lx_exN ht4 he8 hdp h1 hp8 h2 hc8 ho hF' hp⟩
      rw [tk_nxN ho]
      exact ⟨pk_us.trans (congrArg nI sd1.1), sd1.2, hq⟩
    · have ha8 : a < 8 := by omega
      have hfr := hfree p c s a rfl ho ha haL
      have hf : q a = 0 → hc a = 0 := by
        intro z
        rcases hfr with f | f
        · exact absurd f ((hq a haL).2 z)
        · exact f.2
      refine ⟨_, _, _, _, _, S', ?_, oth, fun l hl => ?_, fun post hp => lx_exA ht4 he8 hdp h1 hp8 h2 hc8 ho ha ha8 hF' hp⟩
      · rw [tk_nxA ho ha ha8]
        exact ⟨pk_us.trans (congrArg nI sd1.1), sd1.2, tk_lkA hq haL hf⟩
      · by_cases e : l = a
        · subst e
          exact Or.inr ⟨hfr, Or.inl pk_us⟩
        · exact Or.inl ⟨pk_un e, pk_un e⟩
    · have ha8 : a < 8 := by omega
      by_cases hn : hd a = nI t
      · refine ⟨_, _, _, _, _, S', ?_, oth, fun l hl => ?_, fun post hp => lx_exR1 ht4 he8 hdp h1 hp8 h2 hc8 ho ha ha8 hn hF' hp⟩
        · rw [tk_nxR ho ha ha8]
          exact ⟨pk_us.trans (congrArg nI sd1.1), sd1.2, tk_lkR hq haL (hb a) hn (by omega)⟩
        · by_cases e : l = a
          · subst e
            refine Or.inr ⟨Or.inl hn, ?_⟩
            by_cases z : hc l - 1 = 0
            · rw [if_pos z, pk_us, pk_us]
              exact Or.inr ⟨rfl, z⟩
            · rw [if_neg z]
              exact Or.inl hn
          · refine Or.inl ⟨?_, pk_un e⟩
            by_cases z : hc a - 1 = 0
            · rw [if_pos z, pk_un e]
            · rw [if_neg z]
      · refine ⟨_, _, _, _, _, S', ?_, oth, fun l _ => Or.inl ⟨rfl, rfl⟩, fun post hp => lx_exR0 ht4 he8 hdp h1 hp8 h2 hc8 ho ha ha8 hn hF' hp⟩
        rw [tk_nxR ho ha ha8]
        exact ⟨pk_us.trans (congrArg nI sd1.1), sd1.2, tk_lkR0 hq haL hn⟩
    · obtain ⟨ma, hma, hla, _⟩ := C a ha8
      have hF2 := ll_FRc (a := a) (m := ma) hF' (by omega) ha8 hla hma
      have S2 := ll_TSx (dp := dp) (d := s.length + 2) S ht (fun j hj => ⟨pk_un (hj (s.length + 1) (by omega)), by rw [pk_un (hj (s.length + 1) (by omega)), pk_un (hj s.length he8)]⟩) (by omega) hF2
      have r2 : tk_RS (upd fp (t * 8 + (s.length + 1)) (nI a)) (upd (upd fc (t * 8 + s.length) (nI (c + 1))) (t * 8 + (s.length + 1)) 0) (t * 8) ((a, 0) :: (p, c + 1) :: s) :=
        ⟨ha8, by omega, pk_us, pk_us, tk_RScg ((p, c + 1) :: s) (fun i hi => by
          have hi' : i < s.length + 1 := hi
          exact ⟨pk_un (by omega), pk_un (by omega)⟩) r1⟩
      have sd2 := tk_sd (ln := ln) ((a, 0) :: (p, c + 1) :: s) r2 hF2
      refine ⟨_, _, _, _, _, S2, ?_, fun s' hs' => ⟨pk_un hs', fun i hi => ⟨pk_un (by omega), by rw [pk_un (show s' * 8 + i ≠ t * 8 + (s.length + 1) by omega), pk_un (show s' * 8 + i ≠ t * 8 + s.length by omega)]⟩⟩, fun l _ => Or.inl ⟨rfl, rfl⟩, fun post hp => lx_exC ht4 (by omega) hdp h1 hp8 h2 hc8 ho ha hF2 hp⟩
      rw [tk_nxC ho ha ha8]
      exact ⟨pk_us.trans (congrArg nI sd2.1), sd2.2, hq⟩
theorem tx_exec_2 {L T t : Nat} {x : List (Nat × Nat) × (Nat → Nat)} (hL : L ≤ 8) (hT : T ≤ 4) (ht : t < T) (C : ll_CI L op ar ln) (S : ll_TS T ln fp fc dp) (R : tk_TR L t x fp fc dp hd hc) (hlen : x.1.length ≤ 8) (hb : ∀ l, x.2 l < 1000) (hne : ¬ x.1 = []) (hfree : ∀ p c s a, x.1 = (p, c) :: s → op (p * 8 + c) = 1 → ar (p * 8 + c) = nI a → a < L → hd a = nI t ∨ (hd a = -1 ∧ hc a = 0)) :
    ∃ fp' fc' dp' hd' hc', ll_TS T ln fp' fc' dp' ∧ tk_TR L t (tk_nx op ar ln x) fp' fc' dp' hd' hc' ∧ (∀ s, s ≠ t → dp' s = dp s ∧ ∀ i, i < 8 → fp' (s * 8 + i) = fp (s * 8 + i) ∧ fc' (s * 8 + i) = fc (s * 8 + i)) ∧ (∀ l, l < L → tk_ch t hd hc hd' hc' l) ∧ (∀ post : St2 → Prop, post (nl, nt, cl, se, vd, lk, op, ar, ln, en, so, lv, ed, pa, fp', fc', dp', hd', hc') → wpX_execute_2 post (nl, nt, cl, se, vd, lk, op, ar, ln, en, so, lv, ed, pa, fp, fc, dp, hd, hc) (nI t)) := by
  obtain ⟨st, q⟩ := x
  cases st with
  | nil => exact absurd rfl hne
  | cons y s =>
    obtain ⟨p, c⟩ := y
    have hdp : dp t = nI (s.length + 1) := R.1
    have hq := R.2.2
    have hln : s.length + 1 ≤ 8 := hlen
    have ht4 : t < 4 := by omega
    obtain ⟨he8, hF, m, h1, hep, hp8, h2, hl, hcm, hm⟩ := tk_top S ht hdp (by omega) R.2.1
    have hc8 : c < 8 := by omega
    obtain ⟨m', hm', hl', hcode⟩ := C p hp8
    have em : m' = m := (nI_eq (by omega) (by omega)).mp (hl'.symm.trans hl)
    subst em
    have hF' := ll_FRi hF h1 hep hp8 hl hcm hm
    have S' : ll_TS T ln fp (upd fc (t * 8 + s.length) (nI (c + 1))) (upd dp t (nI (ll_sd ln fp (upd fc (t * 8 + s.length) (nI (c + 1))) (t * 8) (s.length + 1)))) :=
      ll_TSx S ht (fun j hj => ⟨rfl, pk_un (hj s.length he8)⟩) (by omega) hF'
    have r1 : tk_RS fp (upd fc (t * 8 + s.length) (nI (c + 1))) (t * 8) ((p, c + 1) :: s) := ⟨hp8, by omega, h1, pk_us, tk_RScg s (fun i hi => ⟨rfl, pk_un (by omega)⟩) R.2.1.2.2.2.2⟩
    have sd1 := tk_sd (ln := ln) ((p, c + 1) :: s) r1 hF'
    have oth : ∀ s', s' ≠ t → upd dp t (nI (ll_sd ln fp (upd fc (t * 8 + s.length) (nI (c + 1))) (t * 8) (s.length + 1))) s' = dp s' ∧ ∀ i, i < 8 → fp (s' * 8 + i) = fp (s' * 8 + i) ∧ upd fc (t * 8 + s.length) (nI (c + 1)) (s' * 8 + i) = fc (s' * 8 + i) := fun s' hs' => ⟨pk_un hs', fun i hi => ⟨rfl, pk_un (by omega)⟩⟩
    rcases hcode c hcm with ho | ⟨ho, a, haL, ha⟩ | ⟨ho, a, haL, ha⟩ | ⟨ho, a, hpa, ha8, ha⟩
    · refine ⟨_, _, _, _, _, S', ?_, oth, fun l _ => Or.inl ⟨rfl, rfl⟩, fun post hp => lx_exN_2 ht4 he8 hdp h1 hp8 h2 hc8 ho hF' hp⟩
      rw [tk_nxN ho]
      exact ⟨pk_us.trans (congrArg nI sd1.1), sd1.2, hq⟩
    · have ha8 : a < 8 := by omega
      have hfr := hfree p c s a rfl ho ha haL
      have hf : q a = 0 → hc a = 0 := by
        intro z
        rcases hfr with f | f
        · exact absurd f ((hq a haL).2 z)
        · exact f.2
      refine ⟨_, _, _, _, _, S', ?_, oth, fun l hl => ?_, fun post hp => lx_exA_2 ht4 he8 hdp h1 hp8 h2 hc8 ho ha ha8 hF' hp⟩
      · rw [tk_nxA ho ha ha8]
        exact ⟨pk_us.trans (congrArg nI sd1.1), sd1.2, tk_lkA hq haL hf⟩
      · by_cases e : l = a
        · subst e
          exact Or.inr ⟨hfr, Or.inl pk_us⟩
        · exact Or.inl ⟨pk_un e, pk_un e⟩
    · have ha8 : a < 8 := by omega
      by_cases hn : hd a = nI t
      · refine ⟨_, _, _, _, _, S', ?_, oth, fun l hl => ?_, fun post hp => lx_exR1_2 ht4 he8 hdp h1 hp8 h2 hc8 ho ha ha8 hn hF' hp⟩
        · rw [tk_nxR ho ha ha8]
          exact ⟨pk_us.trans (congrArg nI sd1.1), sd1.2, tk_lkR hq haL (hb a) hn (by omega)⟩
        · by_cases e : l = a
          · subst e
            refine Or.inr ⟨Or.inl hn, ?_⟩
            by_cases z : hc l - 1 = 0
            · rw [if_pos z, pk_us, pk_us]
              exact Or.inr ⟨rfl, z⟩
            · rw [if_neg z]
              exact Or.inl hn
          · refine Or.inl ⟨?_, pk_un e⟩
            by_cases z : hc a - 1 = 0
            · rw [if_pos z, pk_un e]
            · rw [if_neg z]
      · refine ⟨_, _, _, _, _, S', ?_, oth, fun l _ => Or.inl ⟨rfl, rfl⟩, fun post hp => lx_exR0_2 ht4 he8 hdp h1 hp8 h2 hc8 ho ha ha8 hn hF' hp⟩
        rw [tk_nxR ho ha ha8]
        exact ⟨pk_us.trans (congrArg nI sd1.1), sd1.2, tk_lkR0 hq haL hn⟩
    · obtain ⟨ma, hma, hla, _⟩ := C a ha8
      have hF2 := ll_FRc (a := a) (m := ma) hF' (by omega) ha8 hla hma
      have S2 := ll_TSx (dp := dp) (d := s.length + 2) S ht (fun j hj => ⟨pk_un (hj (s.length + 1) (by omega)), by rw [pk_un (hj (s.length + 1) (by omega)), pk_un (hj s.length he8)]⟩) (by omega) hF2
      have r2 : tk_RS (upd fp (t * 8 + (s.length + 1)) (nI a)) (upd (upd fc (t * 8 + s.length) (nI (c + 1))) (t * 8 + (s.length + 1)) 0) (t * 8) ((a, 0) :: (p, c + 1) :: s) :=
        ⟨ha8, by omega, pk_us, pk_us, tk_RScg ((p, c + 1) :: s) (fun i hi => by
          have hi' : i < s.length + 1 := hi
          exact ⟨pk_un (by omega), pk_un (by omega)⟩) r1⟩
      have sd2 := tk_sd (ln := ln) ((a, 0) :: (p, c + 1) :: s) r2 hF2
      refine ⟨_, _, _, _, _, S2, ?_, fun s' hs' => ⟨pk_un hs', fun i hi => ⟨pk_un (by omega), by rw [pk_un (show s' * 8 + i ≠ t * 8 + (s.length + 1) by omega), pk_un (show s' * 8 + i ≠ t * 8 + s.length by omega)]⟩⟩, fun l _ => Or.inl ⟨rfl, rfl⟩, fun post hp => lx_exC_2 ht4 (by omega) hdp h1 hp8 h2 hc8 ho ha hF2 hp⟩
      rw [tk_nxC ho ha ha8]
      exact ⟨pk_us.trans (congrArg nI sd2.1), sd2.2, hq⟩
theorem tx_add {L T t : Nat} {x : List (Nat × Nat) × (Nat → Nat)} (hL : L ≤ 8) (hT : T ≤ 4) (ht : t < T) (C : ll_CI L op ar ln) (S : ll_TS T ln fp fc dp) (R : tk_TR L t x fp fc dp hd hc) (hlen : x.1.length ≤ 8) (hne : ¬ x.1 = []) (B : ll_EB L ed) :
    ∃ ed', ll_EB L ed' ∧ (∀ j, ¬ ed j = 0 → ¬ ed' j = 0) ∧ tk_EC L op ar ed' x ∧ (∀ post : St2 → Prop, post (nI L, nt, cl, se, vd, lk, op, ar, ln, en, so, lv, ed', pa, fp, fc, dp, hd, hc) → wpX_addEdges post (nI L, nt, cl, se, vd, lk, op, ar, ln, en, so, lv, ed, pa, fp, fc, dp, hd, hc) (nI t)) := by
  obtain ⟨st, q⟩ := x
  cases st with
  | nil => exact absurd rfl hne
  | cons y s =>
    obtain ⟨p, c⟩ := y
    have hdp : dp t = nI (s.length + 1) := R.1
    have hq := R.2.2
    have hln : s.length + 1 ≤ 8 := hlen
    have ht4 : t < 4 := by omega
    obtain ⟨he8, hF, m, h1, hep, hp8, h2, hl, hcm, hm⟩ := tk_top S ht hdp (by omega) R.2.1
    have hc8 : c < 8 := by omega
    obtain ⟨m', hm', hl', hcode⟩ := C p hp8
    have em : m' = m := (nI_eq (by omega) (by omega)).mp (hl'.symm.trans hl)
    subst em
    have uq : ∀ p' c' s', ((p, c) :: s, q).1 = (p', c') :: s' → p = p' ∧ c = c' := by
      intro p' c' s' e
      injection e with e1 e2
      injection e1 with e3 e4
      exact ⟨e3, e4⟩
    have neg : ¬ op (p * 8 + c) = 1 → ∃ ed', ll_EB L ed' ∧ (∀ j, ¬ ed j = 0 → ¬ ed' j = 0) ∧ tk_EC L op ar ed' ((p, c) :: s, q) ∧ (∀ post : St2 → Prop, post (nI L, nt, cl, se, vd, lk, op, ar, ln, en, so, lv, ed', pa, fp, fc, dp, hd, hc) → wpX_addEdges post (nI L, nt, cl, se, vd, lk, op, ar, ln, en, so, lv, ed, pa, fp, fc, dp, hd, hc) (nI t)) := by
      intro ho1
      refine ⟨ed, B, fun _ h => h, fun p' c' s' a e ho => ?_, fun post hp => lx_ae0 ht4 he8 hdp h1 hp8 h2 hc8 ho1 hp⟩
      obtain ⟨u1, u2⟩ := uq p' c' s' e
      rw [← u1, ← u2] at ho
      exact absurd ho ho1
    rcases hcode c hcm with ho | ⟨ho, a, haL, ha⟩ | ⟨ho, _⟩ | ⟨ho, _⟩
    · exact neg (by rw [ho]; decide)
    · have ha8 : a < 8 := by omega
      have ua : ∀ p' c' s' a', ((p, c) :: s, q).1 = (p', c') :: s' → ar (p' * 8 + c') = nI a' → a' < L → a' = a := by
        intro p' c' s' a' e e2 e3
        obtain ⟨u1, u2⟩ := uq p' c' s' e
        rw [← u1, ← u2, ha, nI_eq (by omega) (by omega)] at e2
        exact e2.symm
      by_cases hn : hd a = nI t
      · refine ⟨ed, B, fun _ h => h, fun p' c' s' a' e _ e2 e3 e4 => ?_, fun post hp => lx_ae1 ht4 he8 hdp h1 hp8 h2 hc8 ho ha ha8 hn hp⟩
        have := ua p' c' s' a' e e2 e3
        subst this
        exact absurd hn ((hq a' haL).2 e4)
      · refine ⟨ll_ae hd (nI t) a L ed, ll_EBa B hL haL L (Nat.le_refl _), fun j h => tk_aem L j h, fun p' c' s' a' e _ e2 e3 _ l hl hql => ?_, fun post hp => lx_ae2 hL ht4 he8 hdp h1 hp8 h2 hc8 ho ha ha8 hn hp⟩
        have := ua p' c' s' a' e e2 e3
        subst this
        exact tk_aeh ((hq l hl).1 hql).1 L hl
    · exact neg (by rw [ho]; decide)
    · exact neg (by rw [ho]; decide)
theorem tk_TRo {L t s : Nat} {x : List (Nat × Nat) × (Nat → Nat)} (R : tk_TR L s x fp fc dp hd hc) (hlen : x.1.length ≤ 8) (hst : s ≠ t) (hs4 : s < 4) (ht4 : t < 4) (hfr : dp' s = dp s ∧ ∀ i, i < 8 → fp' (s * 8 + i) = fp (s * 8 + i) ∧ fc' (s * 8 + i) = fc (s * 8 + i)) (hch : ∀ l, l < L → tk_ch t hd hc hd' hc' l) : tk_TR L s x fp' fc' dp' hd' hc' := by
  have ne : ¬ nI t = nI s := fun e => hst ((nI_eq (by omega) (by omega)).mp e).symm
  have ne1 : ¬ (-1 : Int32) = nI s := ll_m1 s (by omega)
  refine ⟨by rw [hfr.1]; exact R.1, tk_RScg x.1 (fun i hi => hfr.2 i (by omega)) R.2.1, fun l hl => ?_⟩
  rcases hch l hl with ⟨h1, h2⟩ | ⟨h1, h2⟩
  · rw [h1, h2]
    exact R.2.2 l hl
  · have n1 : ¬ hd l = nI s := by
      rcases h1 with h | h
      · rw [h]; exact ne
      · rw [h.1]; exact ne1
    have n2 : ¬ hd' l = nI s := by
      rcases h2 with h | h
      · rw [h]; exact ne
      · rw [h.1]; exact ne1
    exact ⟨fun z => absurd ((R.2.2 l hl).1 z).1 n1, fun _ => n2⟩
end
