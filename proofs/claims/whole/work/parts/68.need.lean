/-! need -/
theorem S_needLoop {po : Int32 → wF → wA → wB → Prop} {px : String → wF → wA → wB → Prop} {x1 x2 : Int32} {m NC : Nat} {f : wF} {a : wA} {b : wB} (hf : f 2 = nI NC) (hm : NC + m ≤ 10)
    (h : ∀ f' a', f' 2 = nI (NC + m) → (∀ k, k ≠ 2 → f' k = f k) → (∀ j, j ≠ 20 → j ≠ 21 → a' j = a j) → (∀ n, n < NC → a' 20 n = a 20 n ∧ a' 21 n = a 21 n) → (∀ n, NC ≤ n → n < NC + m → a' 20 n = x1 ∧ a' 21 n = x2) → po (nI (NC + m)) f' a' b) : ∃ n9, wp_S_need_58 po px n9 x1 x2 (nI m) (0 : Int32) f a b := by
  refine pk_loop (σ := wF × wA) (fun i k s => wp_S_need_58 po px i x1 x2 (nI m) (nI k) s.1 s.2 b) (fun k s => s.1 2 = nI (NC + k) ∧ (∀ k, k ≠ 2 → s.1 k = f k) ∧ (∀ j, j ≠ 20 → j ≠ 21 → s.2 j = a j) ∧ (∀ n, n < NC → s.2 20 n = a 20 n ∧ s.2 21 n = a 21 n) ∧ (∀ n, NC ≤ n → n < NC + k → s.2 20 n = x1 ∧ s.2 21 n = x2)) m 0 (f, a) (by omega) ⟨hf, fun _ _ => rfl, fun _ _ _ => rfl, fun _ _ => ⟨rfl, rfl⟩, fun n h1 h2 => absurd h2 (by omega)⟩ ?_ ?_
  · rintro i ⟨f', a'⟩ ⟨q1, q2, q3, q4, q5⟩
    refine pk_le m m (fun _ => ?_) (fun y => absurd y (by omega))
    show po (f' 2) f' a' b
    rw [show f' 2 = nI (NC + m) from q1]
    exact h f' a' q1 q2 q3 q4 q5
  · rintro i k ⟨f', a'⟩ hk ⟨q1, q2, q3, q4, q5⟩ ih
    have q1' : f' 2 = nI (NC + k) := q1
    refine pk_le m k (fun y => absurd y (by omega)) (fun _ => ?_)
    show vp_in (f' 2) 10 ∧ vp_in (f' 2) 10 ∧ wp_S_need_58 po px i x1 x2 (nI m) (nI k + 1) (va_up f' 2 (f' 2 + 1)) _ b
    dsimp only
    rw [q1', nI_1, nI_1, nI_clamp (by omega), va_up_ne _ _ (show (21 : Nat) ≠ 20 by decide)]
    refine ⟨vp_in_nI (by omega) (by decide), vp_in_nI (by omega) (by decide), ih (va_up f' 2 (nI (NC + k + 1)), va_up (va_up a' 20 (upd (a' 20) (NC + k) x1)) 21 (upd (a' 21) (NC + k) x2)) ⟨(show va_up f' 2 (nI (NC + k + 1)) 2 = nI (NC + k + 1) from va_up_self _ _ _), fun j hj => (va_up_ne _ _ hj).trans (q2 j hj), fun j h1 h2 => ((va_up_ne _ _ h2).trans (va_up_ne _ _ h1)).trans (q3 j h1 h2), fun n hn => ?_, fun n h1 h2 => ?_⟩⟩
    · show upd (a' 20) (NC + k) x1 n = a 20 n ∧ upd (a' 21) (NC + k) x2 n = a 21 n
      rw [pk_un (by omega), pk_un (by omega)]
      exact q4 n hn
    · show upd (a' 20) (NC + k) x1 n = x1 ∧ upd (a' 21) (NC + k) x2 n = x2
      by_cases e : n = NC + k
      · subst e; rw [pk_us, pk_us]; exact ⟨rfl, rfl⟩
      · rw [pk_un e, pk_un e]; exact q5 n h1 (by omega)
theorem M_needLoop {po : Int32 → wF → wA → wB → Prop} {x1 x2 : Int32} {m NC : Nat} {f : wF} {a : wA} {b : wB} (hf : f 3 = nI NC) (hm : NC + m ≤ 10)
    (h : ∀ f' a', f' 3 = nI (NC + m) → (∀ k, k ≠ 3 → f' k = f k) → (∀ j, j ≠ 6 → j ≠ 7 → j ≠ 8 → j ≠ 9 → a' j = a j) → (∀ n, n < NC → a' 6 n = a 6 n ∧ a' 7 n = a 7 n ∧ a' 8 n = a 8 n ∧ a' 9 n = a 9 n) → (∀ n, NC ≤ n → n < NC + m → a' 6 n = x1 ∧ a' 7 n = x2 ∧ a' 8 n = -1 ∧ a' 9 n = 0) → po (nI (NC + m)) f' a' b) : ∃ n9, wp_M_need_98 po n9 x1 x2 (nI m) (0 : Int32) f a b := by
  refine pk_loop (σ := wF × wA) (fun i k s => wp_M_need_98 po i x1 x2 (nI m) (nI k) s.1 s.2 b) (fun k s => s.1 3 = nI (NC + k) ∧ (∀ k, k ≠ 3 → s.1 k = f k) ∧ (∀ j, j ≠ 6 → j ≠ 7 → j ≠ 8 → j ≠ 9 → s.2 j = a j) ∧ (∀ n, n < NC → s.2 6 n = a 6 n ∧ s.2 7 n = a 7 n ∧ s.2 8 n = a 8 n ∧ s.2 9 n = a 9 n) ∧ (∀ n, NC ≤ n → n < NC + k → s.2 6 n = x1 ∧ s.2 7 n = x2 ∧ s.2 8 n = -1 ∧ s.2 9 n = 0)) m 0 (f, a) (by omega) ⟨hf, fun _ _ => rfl, fun _ _ _ _ _ => rfl, fun _ _ => ⟨rfl, rfl, rfl, rfl⟩, fun n h1 h2 => absurd h2 (by omega)⟩ ?_ ?_
  · rintro i ⟨f', a'⟩ ⟨q1, q2, q3, q4, q5⟩
    refine pk_le m m (fun _ => ?_) (fun y => absurd y (by omega))
    show po (f' 3) f' a' b
    rw [show f' 3 = nI (NC + m) from q1]
    exact h f' a' q1 q2 q3 q4 q5
  · rintro i k ⟨f', a'⟩ hk ⟨q1, q2, q3, q4, q5⟩ ih
    have q1' : f' 3 = nI (NC + k) := q1
    refine pk_le m k (fun y => absurd y (by omega)) (fun _ => ?_)
    have g := ih (va_up f' 3 (nI (NC + k + 1)), va_up (va_up (va_up (va_up a' 6 (upd (a' 6) (NC + k) x1)) 7 (upd (a' 7) (NC + k) x2)) 8 (upd (a' 8) (NC + k) (-1))) 9 (upd (a' 9) (NC + k) 0)) ⟨(show va_up f' 3 (nI (NC + k + 1)) 3 = nI (NC + k + 1) from va_up_self _ _ _), fun j hj => (va_up_ne _ _ hj).trans (q2 j hj), fun j h1 h2 h3 h4 => ?_, fun n hn => ?_, fun n h1 h2 => ?_⟩
    · show vp_in (f' 3) 10 ∧ vp_in (f' 3) 10 ∧ vp_in (f' 3) 10 ∧ vp_in (f' 3) 10 ∧ wp_M_need_98 po i x1 x2 (nI m) (nI k + 1) (va_up f' 3 (f' 3 + 1)) _ b
      dsimp only
      rw [q1', nI_1, nI_1, nI_clamp (by omega), va_up_ne _ _ (show (7 : Nat) ≠ 6 by decide), va_up_ne _ _ (show (8 : Nat) ≠ 7 by decide), va_up_ne _ _ (show (8 : Nat) ≠ 6 by decide), va_up_ne _ _ (show (9 : Nat) ≠ 8 by decide), va_up_ne _ _ (show (9 : Nat) ≠ 7 by decide), va_up_ne _ _ (show (9 : Nat) ≠ 6 by decide), nar0]
      exact ⟨vp_in_nI (by omega) (by decide), vp_in_nI (by omega) (by decide), vp_in_nI (by omega) (by decide), vp_in_nI (by omega) (by decide), g⟩
    · exact ((va_up_ne _ _ h4).trans ((va_up_ne _ _ h3).trans ((va_up_ne _ _ h2).trans (va_up_ne _ _ h1)))).trans (q3 j h1 h2 h3 h4)
    · show upd (a' 6) (NC + k) x1 n = a 6 n ∧ upd (a' 7) (NC + k) x2 n = a 7 n ∧ upd (a' 8) (NC + k) (-1) n = a 8 n ∧ upd (a' 9) (NC + k) 0 n = a 9 n
      rw [pk_un (by omega), pk_un (by omega), pk_un (by omega), pk_un (by omega)]
      exact q4 n hn
    · show upd (a' 6) (NC + k) x1 n = x1 ∧ upd (a' 7) (NC + k) x2 n = x2 ∧ upd (a' 8) (NC + k) (-1) n = -1 ∧ upd (a' 9) (NC + k) 0 n = 0
      by_cases e : n = NC + k
      · subst e; rw [pk_us, pk_us, pk_us, pk_us]; exact ⟨rfl, rfl, rfl, rfl⟩
      · rw [pk_un e, pk_un e, pk_un e, pk_un e]; exact q5 n h1 (by omega)
theorem okc_need_Inv : okc_need Inv := by
  intro x1 x2 x3 fS aS bS fM aM bM hI
  have hI0 := hI
  obtain ⟨U, IC, NC, rs, rr, k0, h2, h3, h4, h5, h6, h7, h8, h9⟩ := hI
  obtain ⟨⟨k11, k12, k13⟩, ⟨k21, k22, k23⟩, ⟨k31, k32, k33⟩, ⟨k41, k42, k43⟩, k51, k52, k53⟩ := id k0
  -- the reference, by what is wrong
  have hbad : ∀ {po : Int32 → wF → wA → wB → Prop}, ((∀ j, j < IC → x1 ≠ nI j) ∨ (∀ j, j < 16 → x2 ≠ nI j)) → po 0 (va_up fM 0 1) aM bM → wp_M_need po x1 x2 x3 fM aM bM := by
    intro po q hp
    have e : ∀ k : Int32, wp_M_need_40 po k x1 x2 x3 1 fM aM bM := fun k => iN' n10 ⟨fun c => thr1 (iN n10 hp), fun c => ⟨fun c2 => thr1 (iN n10 hp), fun c2 => thr1 (iN n10 hp)⟩⟩
    have e2 : wp_M_need_23 po 1 x1 x2 x3 fM aM bM := M_in (fun _ => iN' n10 (e 0)) (fun _ => ip' rfl (e 1))
    refine M_isIncident k22 k23 (fun j hj e3 => iN n10 (M_isSkill (fun s hs e4 => ?_) (fun _ => ip' rfl e2))) (fun _ => ip rfl e2)
    rcases q with q | q
    · exact absurd e3 (q j hj)
    · exact absurd e4 (q s hs)
  have hgood : ∀ {po : Int32 → wF → wA → wB → Prop} {i s : Nat}, i < IC → s < 16 → x1 = nI i → x2 = nI s → (¬ (0 ≤ x3 ∧ x3 ≤ 10) → po 0 (va_up fM 0 2) aM bM) → (∀ m, m ≤ 10 → x3 = nI m → ¬ aM 5 i = 0 → po 0 (va_up fM 0 3) aM bM) → (∀ m, m ≤ 10 → x3 = nI m → aM 5 i = 0 → 10 < NC + m → po 0 (va_up fM 0 4) aM bM) → (∀ m, m ≤ 10 → x3 = nI m → aM 5 i = 0 → NC + m ≤ 10 → ∃ n9, wp_M_need_98 po n9 x1 x2 x3 0 (va_up fM 0 0) aM bM) → wp_M_need po x1 x2 x3 fM aM bM := by
    intro po i s hi hs e1 e2 p1 p2 p3 p4
    refine M_isIncident k22 k23 (fun j hj e3 => iN n10 (M_isSkill (fun s2 hs2 e4 => iN' n10 (M_in (fun q => iN' n10 (ip' rfl ?_)) (fun q => ip' rfl (ip' rfl ?_)))) (fun z => absurd e2 (z s hs)))) (fun z => absurd e1 (z i hi))
    · obtain ⟨m, -, m2, m3⟩ := between (l := 0) (h := 10) rfl rfl (by decide) (by decide) q
      rw [show x1.toNatClampNeg = i by rw [e1, nI_clamp (by omega)]]
      refine ⟨by rw [e1]; exact vp_in_nI (by omega) (by decide), fun c => ip' rfl ?_, fun c => ip' rfl ?_⟩
      · refine pk_le (NC + m) 10 (fun z => thr0 (ip rfl (p4 m m2 m3 c z))) (fun z => thr4 (iN n10 (p3 m m2 m3 c z))) (by rw [k32, m3, nI_add])
      · exact pk_le (NC + m) 10 (fun z => thr3 (iN n10 (p2 m m2 m3 c))) (fun z => thr3 (iN n10 (p2 m m2 m3 c))) (by rw [k32, m3, nI_add])
    · rw [show x1.toNatClampNeg = i by rw [e1, nI_clamp (by omega)]]
      exact ⟨by rw [e1]; exact vp_in_nI (by omega) (by decide), fun c => iN' n10 (thr2 (iN n10 (p1 q))), fun c => iN' n10 (thr2 (iN n10 (p1 q)))⟩
  refine S_checkIncident k21 k23 (fun q => Or.inl ⟨rfl, hbad (Or.inl q) (bad_out2 hI0 n10)⟩) (fun i hi e1 => S_checkSkill (fun q => Or.inl ⟨rfl, hbad (Or.inr q) (bad_out2 hI0 n10)⟩) (fun s hs e2 => ?_))
  have hrange : ¬ (0 ≤ x3 ∧ x3 ≤ 10) → wp_M_need (fun r f2 a2 b2 => wp_M_thrown (fun t f3 a3 b3 => t = 2 ∧ ((2 : Int32) = 0 → mgB bS bS 57 (0 : Int32).toNatClampNeg = r.toInt64) ∧ Inv fS aS (mgB bS bS) f3 a3 b3) f2 a2 b2) x1 x2 x3 fM aM bM := fun q => hgood hi hs e1 e2 (fun _ => bad_out2 hI0 (by decide)) (fun m hm e => absurd ⟨by rw [e]; exact nI_pos' (by omega), by rw [e]; exact nI_le (b := 10) hm (by decide)⟩ q) (fun m hm e => absurd ⟨by rw [e]; exact nI_pos' (by omega), by rw [e]; exact nI_le (b := 10) hm (by decide)⟩ q) (fun m hm e => absurd ⟨by rw [e]; exact nI_pos' (by omega), by rw [e]; exact nI_le (b := 10) hm (by decide)⟩ q)
  refine ⟨fun c => Or.inr (Or.inl ⟨rfl, hrange (fun q => absurd c (Int32.not_lt.mpr q.1))⟩), fun c => ⟨fun c2 => ?_, fun c2 => Or.inr (Or.inl ⟨rfl, hrange (fun q => c2 q.2)⟩)⟩⟩
  have hin : 0 ≤ x3 ∧ x3 ≤ 10 := ⟨Int32.not_lt.mp c, c2⟩
  obtain ⟨m, -, m2, m3⟩ := between (l := 0) (h := 10) rfl rfl (by decide) (by decide) hin
  have hop := ((h5 i (by omega)).1 hi).2
  have hx1 : x1 = nI i := e1
  rw [hx1]
  refine S_checkOpen (by omega) (fun z => Or.inr (Or.inr (Or.inl ⟨rfl, ?_⟩))) (fun z => ?_)
  · rw [← hx1]
    refine hgood hi hs e1 e2 (fun q => absurd hin q) (fun _ _ _ _ => bad_out2 hI0 (by decide)) (fun _ _ _ y => ?_) (fun _ _ _ y => ?_)
    · rcases hop with g | g
      · exact absurd (g.1.symm.trans z) (by decide)
      · exact absurd (g.2.symm.trans y) (by decide)
    · rcases hop with g | g
      · exact absurd (g.1.symm.trans z) (by decide)
      · exact absurd (g.2.symm.trans y) (by decide)
  have hM5 : aM 5 i = 0 := by
    rcases hop with g | g
    · exact g.2
    · exact absurd g.1 z
  rw [← hx1]
  refine pk_le (NC + m) 10 (fun hle => ?_) (fun hgt => Or.inr (Or.inr (Or.inr ⟨rfl, hgood hi hs e1 e2 (fun q => absurd hin q) (fun _ _ _ y => absurd hM5 y) (fun _ _ _ _ _ => bad_out2 hI0 (by decide)) (fun m' hm' e y z2 => ?_)⟩))) (by rw [k31, m3, nI_add])
  · rw [m3]
    refine S_needLoop k31 hle (fun f' a' s1 s2 s3 s4 s5 => ?_)
    rw [← m3]
    refine hgood hi hs e1 e2 (fun q => absurd hin q) (fun _ _ _ y => absurd hM5 y) (fun m' hm' e y z2 => ?_) (fun m' hm' e _ _ => ?_)
    · have := ninj (by omega) (by omega) (m3.symm.trans e)
      omega
    rw [m3]
    refine M_needLoop ((va_up_ne _ _ (by decide)).trans k32) hle (fun g' c' t1 t2 t3 t4 t5 => ?_)
    refine ⟨(t2 0 (by decide)).trans (va_up_self _ _ _), fun _ => out_get, U, IC, NC + m, rs, rr, ⟨⟨(s2 0 (by decide)).trans k11, (t2 1 (by decide)).trans ((va_up_ne _ _ (by decide)).trans k12), k13⟩, ⟨(s2 1 (by decide)).trans k21, (t2 2 (by decide)).trans ((va_up_ne _ _ (by decide)).trans k22), k23⟩, ⟨s1, t1, hle⟩, ⟨(s2 3 (by decide)).trans k41, (t2 4 (by decide)).trans ((va_up_ne _ _ (by decide)).trans k42), k43⟩, ⟨(s2 4 (by decide)).trans k51, (t2 5 (by decide)).trans ((va_up_ne _ _ (by decide)).trans k52), k53⟩⟩, h2.c (s3 1 (by decide) (by decide)) (t3 1 (by decide) (by decide) (by decide) (by decide)), h3.c (s3 2 (by decide) (by decide)) (t3 2 (by decide) (by decide) (by decide) (by decide)), h4.c (fun u hu => s3 _ (by omega) (by omega)) (t3 3 (by decide) (by decide) (by decide) (by decide)), h5.c (s3 18 (by decide) (by decide)) (s3 19 (by decide) (by decide)) (t3 4 (by decide) (by decide) (by decide) (by decide)) (t3 5 (by decide) (by decide) (by decide) (by decide)), ?_, ?_, h8.c (s3 23 (by decide) (by decide)) (t3 10 (by decide) (by decide) (by decide) (by decide)), h9.c (fun i hi => (va_up_ne _ _ hi).trans (mg_ne hi))⟩
    · intro n hn
      by_cases hc : n < NC
      · rw [(s4 n hc).1, (s4 n hc).2, (t4 n hc).1, (t4 n hc).2.1]
        exact h6 n hc
      · rw [(s5 n (by omega) hn).1, (s5 n (by omega) hn).2, (t5 n (by omega) hn).1, (t5 n (by omega) hn).2.1]
        exact ⟨⟨i, hi, e1, e1⟩, ⟨s, hs, e2, e2⟩⟩
    · unfold iFill
      rw [s3 22 (by decide) (by decide), s3 4 (by decide) (by decide), s3 3 (by decide) (by decide), s3 2 (by decide) (by decide), s3 19 (by decide) (by decide)]
      refine ⟨fun n hn => ⟨fun hc => ?_, fun hc => (h7.1 n hn).2 (by omega)⟩, fun u hu => ⟨(h7.2 u hu).1, ?_⟩⟩
      · by_cases hd : n < NC
        · rw [(t4 n hd).2.2.1, (t4 n hd).2.2.2]
          exact (h7.1 n hn).1 hd
        · rw [(t5 n (by omega) hc).2.2.1, (t5 n (by omega) hc).2.2.2, (h7.1 n hn).2 hd]
          exact ⟨rfl, Or.inl ⟨rfl, rfl⟩⟩
      · rcases (h7.2 u hu).2 with y | ⟨n, y1, y2, y3, y4, y5, y6⟩
        · exact Or.inl y
        · exact Or.inr ⟨n, by omega, y2, y3, y4, y5, by rw [(s4 n y1).1]; exact y6⟩
  · have := ninj (by omega) (by omega) (m3.symm.trans e)
    omega
