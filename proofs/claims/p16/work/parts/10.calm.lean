/-! steps keep the picture; no cycle of waits -/
/-- what the chain from s has reached -/
def tk_CH (L T : Nat) (lev : Nat → Nat) (ed hd : Nat → Int32) (s : Nat) (r : Int32) : Prop :=
  r = -1 ∨ ∃ b1 u b, (∀ l, l < L → hd l = nI s → ¬ ed (l * 8 + b1) = 0) ∧ b1 < L ∧ u < T ∧ u ≠ s ∧ r = nI u ∧ b < L ∧ hd b = nI u ∧ lev b1 ≤ lev b
section
variable {nl nt cl se vd lk : Int32} {op ar ln en so lv ed pa fp fc dp hd hc fp' fc' dp' hd' hc' : Nat → Int32}
theorem tx_waitT {L T t : Nat} {x : List (Nat × Nat) × (Nat → Nat)} (hL : L ≤ 8) (hT : T ≤ 4) (ht : t < T) (C : ll_CI L op ar ln) (S : ll_TS T ln fp fc dp) (GL : ∀ l, l < L → (hd l = -1 ∧ hc l = 0) ∨ ∃ s, s < T ∧ hd l = nI s) (R : tk_TR L t x fp fc dp hd hc) (hlen : x.1.length ≤ 8) (hE : ¬ x.1 = [] → tk_EC L op ar ed x) :
    ∃ w : Int32, (w = -1 ∨ ∃ u b, u < T ∧ u ≠ t ∧ w = nI u ∧ b < L ∧ hd b = nI u ∧ ∀ l, l < L → hd l = nI t → ¬ ed (l * 8 + b) = 0) ∧ (w = -1 → ∀ p c s a, x.1 = (p, c) :: s → op (p * 8 + c) = 1 → ar (p * 8 + c) = nI a → a < L → hd a = nI t ∨ (hd a = -1 ∧ hc a = 0)) ∧ (∀ post : Int32 → Prop, post w → wpX_waitsFor post (nl, nI T, cl, 1, vd, lk, op, ar, ln, en, so, lv, ed, pa, fp, fc, dp, hd, hc) (nI t)) := by
  obtain ⟨st, q⟩ := x
  cases st with
  | nil =>
    have hdp : dp t = nI 0 := R.1
    exact ⟨-1, Or.inl rfl, fun _ p c s a e => by injection e, fun post hp => lx_waitD ht hT hdp hp⟩
  | cons y s =>
    obtain ⟨p, c⟩ := y
    have hdp : dp t = nI (s.length + 1) := R.1
    have hq := R.2.2
    have hln : s.length + 1 ≤ 8 := hlen
    have ht4 : t < 4 := by omega
    obtain ⟨he8, hF, m, h1, hep, hp8, h2, hl, hcm, hm⟩ := tk_top S ht hdp (by omega) R.2.1
    have hc8 : c < 8 := by omega
    obtain ⟨m', hm', hl', hcode⟩ := C p hp8
    have em : m' = m := (nI_eq (by omega) (by omega)).mp (hl'.symm.trans hl)
    subst em
    have uq : ∀ p' c' s', ((p, c) :: s, q).1 = (p', c') :: s' → p = p' ∧ c = c' := by
      intro p' c' s' e
      injection e with e1 e2
      injection e1 with e3 e4
      exact ⟨e3, e4⟩
    have neg : ¬ op (p * 8 + c) = 1 → ∃ w : Int32, (w = -1 ∨ ∃ u b, u < T ∧ u ≠ t ∧ w = nI u ∧ b < L ∧ hd b = nI u ∧ ∀ l, l < L → hd l = nI t → ¬ ed (l * 8 + b) = 0) ∧ (w = -1 → ∀ p' c' s' a, ((p, c) :: s, q).1 = (p', c') :: s' → op (p' * 8 + c') = 1 → ar (p' * 8 + c') = nI a → a < L → hd a = nI t ∨ (hd a = -1 ∧ hc a = 0)) ∧ (∀ post : Int32 → Prop, post w → wpX_waitsFor post (nl, nI T, cl, 1, vd, lk, op, ar, ln, en, so, lv, ed, pa, fp, fc, dp, hd, hc) (nI t)) := by
      intro ho1
      refine ⟨-1, Or.inl rfl, fun _ p' c' s' a e ho => ?_, fun post hp => lx_waitN ht hT he8 hdp h1 hp8 h2 hc8 ho1 hp⟩
      obtain ⟨u1, u2⟩ := uq p' c' s' e
      rw [← u1, ← u2] at ho
      exact absurd ho ho1
    rcases hcode c hcm with ho | ⟨ho, a, haL, ha⟩ | ⟨ho, _⟩ | ⟨ho, _⟩
    · exact neg (by rw [ho]; decide)
    · have ha8 : a < 8 := by omega
      have ua : ∀ p' c' s' a', ((p, c) :: s, q).1 = (p', c') :: s' → ar (p' * 8 + c') = nI a' → a' < L → a' = a := by
        intro p' c' s' a' e e2 e3
        obtain ⟨u1, u2⟩ := uq p' c' s' e
        rw [← u1, ← u2, ha, nI_eq (by omega) (by omega)] at e2
        exact e2.symm
      by_cases hn : hd a = nI t
      · refine ⟨-1, Or.inl rfl, fun _ p' c' s' a' e _ e2 e3 => ?_, fun post hp => lx_waitA ht hT he8 hdp h1 hp8 h2 hc8 ho ha ha8 (fun _ => hp) (fun z => absurd hn z)⟩
        rw [ua p' c' s' a' e e2 e3]
        exact Or.inl hn
      · refine ⟨hd a, ?_, fun z p' c' s' a' e _ e2 e3 => ?_, fun post hp => lx_waitA ht hT he8 hdp h1 hp8 h2 hc8 ho ha ha8 (fun z => absurd z hn) (fun _ => hp)⟩
        · rcases GL a haL with g | ⟨u, hu, g⟩
          · exact Or.inl g.1
          · refine Or.inr ⟨u, a, hu, fun x => hn (by rw [g, x]), g, haL, g, fun l hl hh => ?_⟩
            have q0 : q a = 0 := by
              by_cases z : q a = 0
              · exact z
              · exact absurd ((hq a haL).1 (Nat.pos_of_ne_zero z)).1 hn
            have ql : 0 < q l := by
              by_cases z : q l = 0
              · exact absurd hh ((hq l hl).2 z)
              · omega
            exact hE (by intro z; injection z) p c s a rfl ho ha haL q0 l hl ql
        · rw [ua p' c' s' a' e e2 e3]
          rcases GL a haL with g | ⟨u, hu, g⟩
          · exact Or.inr g
          · exact absurd (z.symm.trans g) (ll_m1 u (by omega))
    · exact neg (by rw [ho]; decide)
    · exact neg (by rw [ho]; decide)
theorem tk_kE {L t k n : Nat} (hkn : k ≤ n) (hend : (tk_T op ar ln en t n).1 = []) (hEC : ∀ j, j < n → tk_EC L op ar ed (tk_T op ar ln en t j)) : ¬ (tk_T op ar ln en t k).1 = [] → k < n ∧ tk_EC L op ar ed (tk_T op ar ln en t k) := by
  intro z
  have h : k ≠ n := fun e => z (by rw [e]; exact hend)
  exact ⟨by omega, hEC k (by omega)⟩
theorem tx_step {L T : Nat} (hL : L ≤ 8) (hT : T ≤ 4) (C : ll_CI L op ar ln) (M : tk_MI L T op ar ln en ed fp fc dp hd hc) (x : Int32) :
    ∃ r fp' fc' dp' hd' hc', tk_MI L T op ar ln en ed fp' fc' dp' hd' hc' ∧ (∀ post : Int32 → St2 → Prop, post r (nl, nI T, cl, 1, vd, lk, op, ar, ln, en, so, lv, ed, pa, fp', fc', dp', hd', hc') → wpX_step post (nl, nI T, cl, 1, vd, lk, op, ar, ln, en, so, lv, ed, pa, fp, fc, dp, hd, hc) x) := by
  rcases pk_ix x (n := T) (by omega) with hx | hx | ⟨t, ht, rfl⟩
  · exact ⟨3, fp, fc, dp, hd, hc, M, fun post hp => br_f ll_1n0 (lx_thr0 (Or.inl hx) (br_t rfl hp))⟩
  · exact ⟨3, fp, fc, dp, hd, hc, M, fun post hp => br_f ll_1n0 (lx_thr0 (Or.inr hx) (br_t rfl hp))⟩
  · obtain ⟨S, GL, TR⟩ := M
    obtain ⟨k, n, hkn, hn, hend, hEC, R⟩ := TR t ht
    have hlen := tk_l8 (by omega) S ht R
    have kE := tk_kE hkn hend hEC
    obtain ⟨w, hw, hfr, wX⟩ := tx_waitT (nl := nl) (cl := cl) (vd := vd) (lk := lk) (en := en) (so := so) (lv := lv) (pa := pa) hL hT ht C S GL R hlen (fun z => (kE z).2)
    by_cases z : (tk_T op ar ln en t k).1 = []
    · have hdp : dp t = nI 0 := by
        have := R.1
        rw [z] at this
        exact this
      exact ⟨2, fp, fc, dp, hd, hc, ⟨S, GL, TR⟩, fun post hp => br_f ll_1n0 (lx_thr1 ht hT (br_f ll_1n0 (lx_isDone (by omega) hdp (by omega) (fun _ => br_f ll_1n0 hp) (fun z => absurd rfl z))))⟩
    · have hl0 : (tk_T op ar ln en t k).1.length ≠ 0 := fun q => z (List.eq_nil_of_length_eq_zero q)
      by_cases hm1 : w = -1
      · obtain ⟨fp', fc', dp', hd', hc', S', R', oth, ch, eX⟩ := tx_exec_2 (nl := nl) (nt := nI T) (cl := cl) (se := 1) (vd := vd) (lk := lk) (en := en) (so := so) (lv := lv) (ed := ed) (pa := pa) hL hT ht C S R hlen (fun l => by have := tk_b (op := op) (ar := ar) (ln := ln) (en := en) t k l; omega) z (hfr hm1)
        subst hm1
        refine ⟨0, fp', fc', dp', hd', hc', ⟨S', fun l hl => ?_, fun s hs => ?_⟩, fun post hp => ?_⟩
        · rcases ch l hl with ⟨h1, h2⟩ | ⟨_, h⟩
          · rw [h1, h2]; exact GL l hl
          · rcases h with h | h
            · exact Or.inr ⟨t, ht, h⟩
            · exact Or.inl h
        · by_cases e : s = t
          · subst e
            exact ⟨k + 1, n, (kE z).1, hn, hend, hEC, R'⟩
          · obtain ⟨k2, n2, a1, a2, a3, a4, R2⟩ := TR s hs
            exact ⟨k2, n2, a1, a2, a3, a4, tk_TRo R2 (tk_l8 (by omega) S hs R2) e (by omega) (by omega) (oth s e) ch⟩
        · refine br_f ll_1n0 (lx_thr1 ht hT (br_f ll_1n0 (lx_isDone (by omega) R.1 hlen (fun q => absurd q hl0) (fun _ => br_t rfl ?_))))
          exact wX _ (br_t rfl (eX _ hp))
      · refine ⟨1, fp, fc, dp, hd, hc, ⟨S, GL, TR⟩, fun post hp => ?_⟩
        refine br_f ll_1n0 (lx_thr1 ht hT (br_f ll_1n0 (lx_isDone (by omega) R.1 hlen (fun q => absurd q hl0) (fun _ => br_t rfl ?_))))
        exact wX _ (br_f hm1 hp)
theorem tx_run {L T N : Nat} {v : Int32} (hL : L ≤ 8) (h1T : 1 ≤ T) (hT : T ≤ 4) (hN : N ≤ 1024) (C : ll_CI L op ar ln) : ∀ (m i : Nat) (c : Int32) (fp fc dp hd hc : Nat → Int32), i + m = N → tk_MI L T op ar ln en ed fp fc dp hd hc →
    ∃ c' fp' fc' dp' hd' hc', tk_MI L T op ar ln en ed fp' fc' dp' hd' hc' ∧ (∀ (post : Int32 → St2 → Prop) (n : Nat), m < n → post c' (nl, nI T, cl, 1, vd, lk, op, ar, ln, en, so, lv, ed, pa, fp', fc', dp', hd', hc') → wX_run_24 post v (nI N) n c (nI i) nl (nI T) cl 1 vd lk op ar ln en so lv ed pa fp fc dp hd hc) := by
  have hT0 : ¬ nI T = 0 := nI_ne0 (by omega) (by omega)
  have h16 : ¬ (16 : Int32) = 0 := by decide
  intro m
  induction m with
  | zero =>
    intro i c fp fc dp hd hc hi M
    have e : i = N := by omega
    subst e
    refine ⟨c, fp, fc, dp, hd, hc, M, fun post n hn hp => ?_⟩
    obtain ⟨n, rfl⟩ : ∃ m, n = m + 1 := ⟨n - 1, by omega⟩
    exact pk_le i i (fun _ => hp) (fun h => absurd h (by omega))
  | succ m ih =>
    intro i c fp fc dp hd hc hi M
    obtain ⟨r, fp1, fc1, dp1, hd1, hc1, M1, sX⟩ := tx_step (nl := nl) (cl := cl) (vd := vd) (lk := lk) (en := en) (so := so) (lv := lv) (ed := ed) (pa := pa) hL hT C M (ll_fld v (nI i) - ll_fld v (nI i) / nI T * nI T)
    by_cases hr : r = 0
    · obtain ⟨c', fp', fc', dp', hd', hc', M', gX⟩ := ih (i + 1) (c + 1) fp1 fc1 dp1 hd1 hc1 (by omega) M1
      refine ⟨c', fp', fc', dp', hd', hc', M', fun post n hn hp => ?_⟩
      obtain ⟨n, rfl⟩ : ∃ m, n = m + 1 := ⟨n - 1, by omega⟩
      refine pk_le N i (fun h => absurd h (by omega)) (fun _ => And.intro h16 (nm_r (e' := ll_fld v (nI i)) rfl ⟨hT0, sX _ ?_⟩))
      exact br_t hr (nm_e (nm_r (nI_1 i) (gX post n (by omega) hp)))
    · obtain ⟨c', fp', fc', dp', hd', hc', M', gX⟩ := ih (i + 1) c fp1 fc1 dp1 hd1 hc1 (by omega) M1
      refine ⟨c', fp', fc', dp', hd', hc', M', fun post n hn hp => ?_⟩
      obtain ⟨n, rfl⟩ : ∃ m, n = m + 1 := ⟨n - 1, by omega⟩
      refine pk_le N i (fun h => absurd h (by omega)) (fun _ => And.intro h16 (nm_r (e' := ll_fld v (nI i)) rfl ⟨hT0, sX _ ?_⟩))
      exact br_f hr (nm_r (nI_1 i) (gX post n (by omega) hp))
theorem tx_own {L T s : Nat} {lev : Nat → Nat} (hL : L ≤ 8) (hT : T ≤ 4) (hs : s < T) (C : ll_CI L op ar ln) (M : tk_MI L T op ar ln en ed fp fc dp hd hc) :
    ∃ w : Int32, tk_CH L T lev ed hd s w ∧ (∀ post : Int32 → Prop, post w → wpX_waitsFor post (nl, nI T, cl, 1, vd, lk, op, ar, ln, en, so, lv, ed, pa, fp, fc, dp, hd, hc) (nI s)) := by
  obtain ⟨S, GL, TR⟩ := M
  obtain ⟨k, n, hkn, hn, hend, hEC, R⟩ := TR s hs
  have hlen := tk_l8 (by omega) S hs R
  obtain ⟨w, hw, _, wX⟩ := tx_waitT (nl := nl) (cl := cl) (vd := vd) (lk := lk) (en := en) (so := so) (lv := lv) (pa := pa) hL hT hs C S GL R hlen (fun z => (tk_kE hkn hend hEC z).2)
  refine ⟨w, ?_, wX⟩
  rcases hw with h | ⟨u, b, h1, h2, h3, h4, h5, h6⟩
  · exact Or.inl h
  · exact Or.inr ⟨b, u, b, h6, h4, h1, h2, h3, h4, h5, Nat.le_refl _⟩
theorem tx_next {L T s : Nat} {lev : Nat → Nat} {r : Int32} (hL : L ≤ 8) (hT : T ≤ 4) (C : ll_CI L op ar ln) (M : tk_MI L T op ar ln en ed fp fc dp hd hc) (hlv : ∀ a b, a < L → b < L → ¬ ed (a * 8 + b) = 0 → lev a < lev b) (H : tk_CH L T lev ed hd s r) :
    ∃ w : Int32, tk_CH L T lev ed hd s w ∧ (∀ post : Int32 → Prop, post w → wpX_waitsFor post (nl, nI T, cl, 1, vd, lk, op, ar, ln, en, so, lv, ed, pa, fp, fc, dp, hd, hc) r) := by
  rcases H with rfl | ⟨b1, u, b, g1, g2, g3, g4, rfl, g5, g6, g7⟩
  · exact ⟨-1, Or.inl rfl, fun post hp => lx_wait0 (Or.inl (by decide)) hp⟩
  · obtain ⟨S, GL, TR⟩ := M
    obtain ⟨k, n, hkn, hn, hend, hEC, R⟩ := TR u g3
    have hlen := tk_l8 (by omega) S g3 R
    obtain ⟨w, hw, _, wX⟩ := tx_waitT (nl := nl) (cl := cl) (vd := vd) (lk := lk) (en := en) (so := so) (lv := lv) (pa := pa) hL hT g3 C S GL R hlen (fun z => (tk_kE hkn hend hEC z).2)
    refine ⟨w, ?_, wX⟩
    rcases hw with h | ⟨v, b', h1, h2, h3, h4, h5, h6⟩
    · exact Or.inl h
    · have l1 := hlv b b' g5 h4 (h6 b g5 g6)
      refine Or.inr ⟨b1, v, b', g1, g2, h1, fun e => ?_, h3, h4, h5, by omega⟩
      rw [e] at h5
      have l2 := hlv b' b1 h4 g2 (g1 b' h4 h5)
      omega
theorem tk_CHn {L T s : Nat} {lev : Nat → Nat} {r : Int32} (hT : T ≤ 4) (hs : s < T) (H : tk_CH L T lev ed hd s r) : ¬ r = nI s := by
  rcases H with rfl | ⟨b1, u, b, g1, g2, g3, g4, rfl, _⟩
  · exact ll_m1 s (by omega)
  · intro e
    rw [nI_eq (by omega) (by omega)] at e
    exact g4 e
theorem tx_chain {post : Int32 → Prop} {L T s : Nat} {lev : Nat → Nat} (hL : L ≤ 8) (hT : T ≤ 4) (hs : s < T) (C : ll_CI L op ar ln) (M : tk_MI L T op ar ln en ed fp fc dp hd hc) (hlv : ∀ a b, a < L → b < L → ¬ ed (a * 8 + b) = 0 → lev a < lev b) (hp : post 0) : ∀ (m n k : Nat) (r : Int32), k + m = T → m < n → tk_CH L T lev ed hd s r → wX_waitsForItself_8 post (nI s) nl (nI T) cl 1 vd lk op ar ln en so lv ed pa fp fc dp hd hc n r (nI k) := by
  intro m
  induction m with
  | zero =>
    intro n k r hk hn H
    obtain ⟨n, rfl⟩ : ∃ m, n = m + 1 := ⟨n - 1, by omega⟩
    exact pk_le T k (fun _ => br_f (tk_CHn hT hs H) hp) (fun h => absurd h (by omega))
  | succ m ih =>
    intro n k r hk hn H
    obtain ⟨n, rfl⟩ : ∃ m, n = m + 1 := ⟨n - 1, by omega⟩
    obtain ⟨w, H', wX⟩ := tx_next (nl := nl) (cl := cl) (vd := vd) (lk := lk) (so := so) (lv := lv) (pa := pa) hL hT C M hlv H
    exact pk_le T k (fun h => absurd h (by omega)) (fun _ => br_f (tk_CHn hT hs H) (wX _ (nm_r (nI_1 k) (ih n (k + 1) w (by omega) (by omega) H'))))
theorem tx_dead {post : Int32 → Prop} {L T : Nat} {lev : Nat → Nat} (hL : L ≤ 8) (hT : T ≤ 4) (C : ll_CI L op ar ln) (M : tk_MI L T op ar ln en ed fp fc dp hd hc) (hlv : ∀ a b, a < L → b < L → ¬ ed (a * 8 + b) = 0 → lev a < lev b) (hp : post 0) : ∀ (m n s : Nat), s + m = T → m < n → wX_deadlocked_2 post nl (nI T) cl 1 vd lk op ar ln en so lv ed pa fp fc dp hd hc n (nI s) := by
  intro m
  induction m with
  | zero =>
    intro n s hs hn
    obtain ⟨n, rfl⟩ : ∃ m, n = m + 1 := ⟨n - 1, by omega⟩
    exact pk_le T s (fun _ => hp) (fun h => absurd h (by omega))
  | succ m ih =>
    intro n s hs hn
    obtain ⟨n, rfl⟩ : ∃ m, n = m + 1 := ⟨n - 1, by omega⟩
    obtain ⟨w, H, wX⟩ := tx_own (lev := lev) (nl := nl) (cl := cl) (vd := vd) (lk := lk) (so := so) (lv := lv) (pa := pa) hL hT (show s < T by omega) C M
    refine pk_le T s (fun h => absurd h (by omega)) (fun _ => ?_)
    unfold wpX_waitsForItself
    refine wX _ ?_
    exact ⟨T, tx_chain hL hT (by omega) C M hlv (br_t rfl (nm_r (nI_1 s) (ih n (s + 1) (by omega) (by omega)))) (T - 1) T 1 w (by omega) (by omega) H⟩
theorem tx_c25 {post : Int32 → Prop} {J : Int32 → Prop} {L T s : Nat} {lev : Nat → Nat} (hL : L ≤ 8) (hT : T ≤ 4) (hs : s < T) (C : ll_CI L op ar ln) (M : tk_MI L T op ar ln en ed fp fc dp hd hc) (hlv : ∀ a b, a < L → b < L → ¬ ed (a * 8 + b) = 0 → lev a < lev b) (hJ : J (nI (s + 1))) : ∀ (m n k : Nat) (r : Int32), k + m = T → m < n → tk_CH L T lev ed hd s r → wL_calm_25 post J (nI T) (nI s) nl (nI T) cl 1 vd lk op ar ln en so lv ed pa fp fc dp hd hc n r (nI k) := by
  intro m
  induction m with
  | zero =>
    intro n k r hk hn H
    obtain ⟨n, rfl⟩ : ∃ m, n = m + 1 := ⟨n - 1, by omega⟩
    exact pk_le T k (fun _ => nm_r (nI_1 s) hJ) (fun h => absurd h (by omega))
  | succ m ih =>
    intro n k r hk hn H
    obtain ⟨n, rfl⟩ : ∃ m, n = m + 1 := ⟨n - 1, by omega⟩
    obtain ⟨w, H', wX⟩ := tx_next (nl := nl) (cl := cl) (vd := vd) (lk := lk) (so := so) (lv := lv) (pa := pa) hL hT C M hlv H
    refine pk_le T k (fun h => absurd h (by omega)) (fun _ => br_c (fun _ => nm_r (nI_1 s) hJ) (fun _ => br_c (fun _ => nm_r (nI_1 s) hJ) (fun _ => br_f (tk_CHn hT hs H) ?_)))
    exact wX _ (nm_r (nI_1 k) (ih n (k + 1) w (by omega) (by omega) H'))
theorem tx_c11 {post : Int32 → Prop} {L T : Nat} {lev : Nat → Nat} (hL : L ≤ 8) (hT : T ≤ 4) (C : ll_CI L op ar ln) (M : tk_MI L T op ar ln en ed fp fc dp hd hc) (hlv : ∀ a b, a < L → b < L → ¬ ed (a * 8 + b) = 0 → lev a < lev b) (hp : post 1) : ∀ (m n s : Nat), s + m = T → m < n → wL_calm_11 post (nI T) nl (nI T) cl 1 vd lk op ar ln en so lv ed pa fp fc dp hd hc n (nI s) := by
  intro m
  induction m with
  | zero =>
    intro n s hs hn
    obtain ⟨n, rfl⟩ : ∃ m, n = m + 1 := ⟨n - 1, by omega⟩
    exact pk_le T s (fun _ => hp) (fun h => absurd h (by omega))
  | succ m ih =>
    intro n s hs hn
    obtain ⟨n, rfl⟩ : ∃ m, n = m + 1 := ⟨n - 1, by omega⟩
    obtain ⟨w, H, wX⟩ := tx_own (lev := lev) (nl := nl) (cl := cl) (vd := vd) (lk := lk) (so := so) (lv := lv) (pa := pa) hL hT (show s < T by omega) C M
    refine pk_le T s (fun h => absurd h (by omega)) (fun _ => wX _ ?_)
    exact ⟨T + 1, tx_c25 hL hT (by omega) C M hlv (ih n (s + 1) (by omega) (by omega)) T (T + 1) 0 w (by omega) (by omega) H⟩
end
theorem tg_calm {post : Int32 → Prop} {L T : Nat} {u : St2} (hL : L ≤ 8) (hT : T ≤ 4) (G : tk_G L T u) (hp : post 1) : wpL_calm post u (nI T) := by
  obtain ⟨cl, lk, op, ar, ln, en, so, lv, ed, pa, fp, fc, dp, hd, hc, lev, rfl, C, hen, hl, hlv, M⟩ := G
  unfold wpL_calm
  exact ⟨T + 1, tx_dead hL hT C M hlv (br_t rfl ⟨T + 1, tx_c11 hL hT C M hlv hp T (T + 1) 0 (by omega) (by omega)⟩) T (T + 1) 0 (by omega) (by omega)⟩
theorem tg_step {post : Int32 → St2 → Prop} {L T : Nat} {u : St2} (hL : L ≤ 8) (hT : T ≤ 4) (G : tk_G L T u) (x : Int32) (hp : ∀ r u', tk_G L T u' → post r u') : wpX_step post u x := by
  obtain ⟨cl, lk, op, ar, ln, en, so, lv, ed, pa, fp, fc, dp, hd, hc, lev, rfl, C, hen, hl, hlv, M⟩ := G
  obtain ⟨r, fp', fc', dp', hd', hc', M', sX⟩ := tx_step hL hT C M x
  exact sX _ (hp _ _ ⟨cl, lk, op, ar, ln, en, so, lv, ed, pa, fp', fc', dp', hd', hc', lev, rfl, C, hen, hl, hlv, M'⟩)
theorem tg_run {post : Int32 → St2 → Prop} {L T : Nat} {u : St2} (hL : L ≤ 8) (h1T : 1 ≤ T) (hT : T ≤ 4) (G : tk_G L T u) (x y : Int32) (hp : ∀ r u', tk_G L T u' → post r u') : wpX_run post u x y := by
  obtain ⟨cl, lk, op, ar, ln, en, so, lv, ed, pa, fp, fc, dp, hd, hc, lev, rfl, C, hen, hl, hlv, M⟩ := G
  obtain ⟨N, _, hN, cN⟩ := ll_clamp y 0 1024 (by omega) (by decide)
  have cNX : ∀ post : Int32 → Prop, post (nI N) → wpX_clamp post () y 0 1024 := fun post hp => cN post hp
  obtain ⟨c', fp', fc', dp', hd', hc', M', sX⟩ := tx_run (v := x) hL h1T hT hN C N 0 0 fp fc dp hd hc (by omega) M
  refine br_f ll_1n0 ?_
  refine cNX _ ?_
  refine ⟨N + 1, sX _ (N + 1) (by omega) ?_⟩
  exact hp _ _ ⟨cl, lk, op, ar, ln, en, so, lv, ed, pa, fp', fc', dp', hd', hc', lev, rfl, C, hen, hl, hlv, M'⟩
theorem tg_restart {post : Int32 → St2 → Prop} {L T : Nat} {u : St2} (hL : L ≤ 8) (hT : T ≤ 4) (G : tk_G L T u) (hp : ∀ r u', tk_G L T u' → post r u') : wpX_restart post u := by
  obtain ⟨cl, lk, op, ar, ln, en, so, lv, ed, pa, fp, fc, dp, hd, hc, lev, rfl, C, hen, hl, hlv, M⟩ := G
  obtain ⟨fp2, fc2, dp2, S2, hR, rX⟩ := tx_restart hL hT C hen M.1
  refine br_f ll_1n0 ?_
  refine rX _ _ _ _ _ _ _ _ _ _ _ ?_
  refine hp _ _ ⟨cl, lk, op, ar, ln, en, so, lv, ed, pa, fp2, fc2, dp2, _, _, lev, rfl, C, hen, hl, hlv, tk_MI0 hT S2 hR (fun t ht => ?_)⟩
  obtain ⟨k, n, _, a2, a3, a4, _⟩ := M.2.2 t ht
  exact ⟨n, a2, a3, a4⟩
theorem tg_order {post : Int32 → Prop} {L T a b : Nat} {u : St2} (hL : L ≤ 8) (G : tk_G L T u) (ha : a < L) (hb : b < L) (h0 : post 0) (h1 : (∀ post' : Int32 → Int32 → Prop, (∀ x y, x < y → post' x y) → wpX_level (fun r => wpX_level (fun r' => post' r r') u (nI b)) u (nI a)) → post 1) : wpX_order post u (nI a) (nI b) := by
  obtain ⟨cl, lk, op, ar, ln, en, so, lv, ed, pa, fp, fc, dp, hd, hc, lev, rfl, C, hen, hl, hlv, M⟩ := G
  have c1 : (nI (a * 8 + b)).toNatClampNeg = a * 8 + b := nI_clamp (by omega)
  have ca : (nI a).toNatClampNeg = a := nI_clamp (by omega)
  have cb : (nI b).toNatClampNeg = b := nI_clamp (by omega)
  refine br_f ll_1n0 (lx_lock1 ha hL (br_f ll_1n0 (lx_lock1 hb hL (br_f ll_1n0 ?_))))
  rw [ll_cel a b, c1]
  refine ⟨vp_in_nI (by omega) (by decide), br_c (fun _ => h0) (fun z => h1 (fun post' hp => ?_))⟩
  refine br_t rfl (lx_lock1 ha hL (br_f ll_1n0 ⟨vp_in_nI (by omega) (by decide), ?_⟩))
  refine br_t rfl (lx_lock1 hb hL (br_f ll_1n0 ⟨vp_in_nI (by omega) (by decide), ?_⟩))
  rw [ca, cb, (hl a (by omega)).1, (hl b (by omega)).1]
  have h8 := (hl b (by omega)).2
  exact hp _ _ (nI_lt (hlv a b ha hb z) (by omega))
