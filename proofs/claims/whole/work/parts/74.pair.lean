/-! the cheapest end, the turned way, the pairing -/
theorem P_cheapestEnd {po : Int32 → wF → wA → wB → Prop} {n : Nat} {C : Nat → Nat → Int} {P Q : Nat → Nat} {f : wF} {a : wA} {b : wB} {rc rt uc ut : Nat → Int} {fr : Nat → Nat} {fs : Nat → Bool} {ch : Nat → List Nat} (hc : PC n C P Q a b) (hs : SR n a b rc rt uc ut fr fs ch)
    (h0 : (∀ u, u < 12 → Q u = 10 → fr u = 10) → po (-1) f a b) (h1 : ∀ e, e < 12 → Q e = 10 → fr e ≠ 10 → (∀ u, u < 12 → Q u = 10 → fr u ≠ 10 → cmb uc ut e ≤ cmb uc ut u) → po (nI e) f a b) : wp_P_cheapestEnd po f a b := by
  obtain ⟨c1, c2, c3, c4, c5, c6⟩ := hc
  obtain ⟨s1, s2, s3, s4⟩ := hs
  refine pk_loop (σ := Int32) (fun m k s => wp_P_cheapestEnd_4 po m s (nI k) f a b) (fun k s => (s = -1 ∧ ∀ u, u < k → Q u = 10 → fr u = 10) ∨ ∃ e, e < k ∧ s = nI e ∧ Q e = 10 ∧ fr e ≠ 10 ∧ ∀ u, u < k → Q u = 10 → fr u ≠ 10 → cmb uc ut e ≤ cmb uc ut u) 12 0 (-1) (by omega) (Or.inl ⟨rfl, fun u hu => absurd hu (Nat.not_lt_zero u)⟩) ?_ ?_
  · intro m s hs
    refine ip (by decide) ?_
    rcases hs with ⟨e, q⟩ | ⟨e, q1, q2, q3, q4, q5⟩
    · rw [e]; exact h0 q
    · rw [q2]; exact h1 e q1 q3 q4 q5
  · intro m k s hk hs ih
    have hQk : Q k ≤ 10 := by
      rcases c6 k hk with z | z
      · omega
      · omega
    have hfk := s1 k hk
    refine pk_le 12 k (fun y => absurd y (by omega)) (fun _ => ⟨vp_in_nI hk (by decide), ?_⟩)
    rw [nI_clamp (n := k) (by omega), c5 k hk, en_iff (by omega), hfk.1, en_iff (by omega)]
    have hskip : (Q k = 10 → fr k = 10) → wp_P_cheapestEnd_4 po m s (nI k + 1) f a b := fun hz => by
      rw [nI_1]
      refine ih s ?_
      rcases hs with ⟨e, q⟩ | ⟨e, q1, q2, q3, q4, q5⟩
      · refine Or.inl ⟨e, fun u hu z => ?_⟩
        by_cases eu : u = k
        · subst eu; exact hz z
        · exact q u (by omega) z
      · refine Or.inr ⟨e, by omega, q2, q3, q4, fun u hu z1 z2 => ?_⟩
        by_cases eu : u = k
        · subst eu; exact absurd (hz z1) z2
        · exact q5 u (by omega) z1 z2
    refine ⟨fun z => hskip (fun y => absurd y z), fun z => ⟨vp_in_nI hk (by decide), fun z2 => hskip (fun _ => z2), fun z2 => ?_⟩⟩
    have htake : (∀ e, e < k → s = nI e → cmb uc ut k ≤ cmb uc ut e) → wp_P_cheapestEnd_4 po m (nI k) (nI k + 1) f a b := fun hle => by
      rw [nI_1]
      refine ih (nI k) (Or.inr ⟨k, by omega, rfl, z, z2, fun u hu y1 y2 => ?_⟩)
      by_cases eu : u = k
      · subst eu; exact Int.le_refl _
      · rcases hs with ⟨e, q⟩ | ⟨e, q1, q2, q3, q4, q5⟩
        · exact absurd (q u (by omega) y1) y2
        · have g1 := hle e q1 q2
          have g2 := q5 u (by omega) y1 y2
          omega
    refine ⟨fun z3 => htake (fun e he es => ?_), fun z3 => ?_⟩
    · rw [z3] at es; exact absurd es.symm (m1ne (by omega))
    · rcases hs with ⟨e, q⟩ | ⟨e, q1, q2, q3, q4, q5⟩
      · exact absurd e z3
      · obtain ⟨u1, u2, u3⟩ := s4 k hk z2
        obtain ⟨v1, v2, v3⟩ := s4 e (by omega) q4
        refine ⟨vp_in_nI hk (by decide), vp_in_nI hk (by decide), by rw [q2]; exact vp_in_nI (by omega) (by decide), by rw [q2]; exact vp_in_nI (by omega) (by decide), ?_⟩
        rw [show s.toNatClampNeg = e by rw [q2, nI_clamp (by omega)], u1, u2, v1, v2]
        refine P_isLess u3 v3 (by decide) (by decide) (fun hl => iN n10 (htake (fun e' he' es => ?_))) (fun hl => ip rfl ?_)
        · have : e' = e := ninj (by omega) (by omega) (es.symm.trans q2)
          subst this
          exact Int.le_of_lt hl
        · show wp_P_cheapestEnd_4 po m s (nI k + 1) f a b
          rw [nI_1]
          refine ih s (Or.inr ⟨e, by omega, q2, q3, q4, fun u hu y1 y2 => ?_⟩)
          by_cases eu : u = k
          · subst eu; exact Int.not_lt.mp hl
          · exact q5 u (by omega) y1 y2
theorem P_turnPath {po : wF → wA → wB → Prop} {n : Nat} {fr : Nat → Nat} {f : wF} {b : wB} (hn : n ≤ 10) : ∀ (l : List Nat) (u st : Nat) (P Q : Nat → Nat) (a : wA), st + l.length ≤ 10 → u ≤ 12 → l.Nodup → pth P fr u l → (∀ x, x ∈ l → x < n) → (∀ v, v < 12 → a 54 v = en 10 (fr v)) → (∀ r, r < n → a 48 r = en 12 (P r) ∧ P r ≤ 12) → (∀ v, v < 12 → a 49 v = en 10 (Q v)) → inj n P → (∀ v, v < 12 → v ≠ u → (Q v = 10 ∧ ∀ r, r < n → P r ≠ v) ∨ (Q v < n ∧ P (Q v) = v)) → (u ≠ 12 → ∀ r, r < n → P r ≠ u) →
    (∀ a' Q', (∀ j, j ≠ 48 → j ≠ 49 → a' j = a j) → (∀ r, r < n → a' 48 r = en 12 (turn l u P r) ∧ turn l u P r ≤ 12) → (∀ v, v < 12 → a' 49 v = en 10 (Q' v)) → QP n (turn l u P) Q' → (∀ r, n ≤ r → a' 48 r = a 48 r) → po f a' b) → wp_P_turnPath_4 po (l.length + 1) (en 12 u) (nI st) f a b
  | [], u, st, P, Q, a, h1, h2, h3, h4, h5, h6, h7, h8, h9, h10, h11, h => by
    have e : u = 12 := h4
    subst e
    have hq : QP n P Q := fun v hv => h10 v hv (by omega)
    exact ⟨fun _ => h a Q (fun _ _ _ => rfl) h7 h8 hq (fun _ _ => rfl), fun _ => ip en_m (h a Q (fun _ _ _ => rfl) h7 h8 hq (fun _ _ => rfl))⟩
  | x :: l, u, st, P, Q, a, h1, h2, h3, h4, h5, h6, h7, h8, h9, h10, h11, h => by
    obtain ⟨hx, hd2⟩ := List.nodup_cons.mp h3
    obtain ⟨p1, p2, p3⟩ := h4
    simp only [List.length_cons] at h1
    have hxn : x < n := h5 x List.mem_cons_self
    have hu : u < 12 := by omega
    have hfree := h11 p1
    refine pk_le 10 st (fun y => absurd y (by omega)) (fun _ => ?_)
    rw [en_n p1]
    refine iN (m1ne (by omega)) ⟨vp_in_nI hu (by decide), ?_⟩
    rw [nI_clamp (n := u) (by omega), h6 u hu, p2, en_n (by omega), nI_clamp (n := x) (by omega), (h7 x hxn).1]
    refine iN' (m1ne (by omega)) ⟨vp_in_nI (by omega) (by decide), vp_in_nI (by omega) (by decide), vp_in_nI hu (by decide), ?_⟩
    rw [nI_1]
    refine P_turnPath hn l (P x) (st + 1) (fu P x u) (fu Q u x) _ (by omega) (h7 x hxn).2 hd2 (pth_up l (P x) hx p3) (fun y hy => h5 y (List.mem_cons_of_mem _ hy)) (fun v hv => h6 v hv) ?_ ?_ ?_ ?_ ?_ ?_
    · intro r hr
      show upd (a 48) x (nI u) r = _ ∧ _
      by_cases e : r = x
      · subst e; rw [pk_us, fu_s, en_n p1]; exact ⟨rfl, h2⟩
      · rw [pk_un e, fu_n e]; exact h7 r hr
    · intro v hv
      show upd (a 49) u (nI x) v = _
      by_cases e : v = u
      · subst e; rw [pk_us, fu_s, en_n (by omega)]
      · rw [pk_un e, fu_n e]; exact h8 v hv
    · intro r q hr hq e1 e2
      by_cases er : r = x
      · by_cases eq : q = x
        · rw [er, eq]
        · rw [er, fu_s, fu_n eq] at e1
          exact absurd e1.symm (hfree q hq)
      · by_cases eq : q = x
        · rw [eq, fu_s, fu_n er] at e1
          exact absurd e1 (hfree r hr)
        · rw [fu_n er, fu_n eq] at e1
          rw [fu_n er] at e2
          exact h9 r q hr hq e1 e2
    · intro v hv hne
      by_cases e : v = u
      · subst e
        right
        rw [fu_s, fu_s]
        exact ⟨hxn, rfl⟩
      · rw [fu_n e]
        rcases h10 v hv e with ⟨q1, q2⟩ | ⟨q1, q2⟩
        · left
          refine ⟨q1, fun r hr => ?_⟩
          by_cases er : r = x
          · rw [er, fu_s]; exact fun z => e z.symm
          · rw [fu_n er]; exact q2 r hr
        · right
          have : Q v ≠ x := fun z => by rw [z] at q2; exact hne q2.symm
          rw [fu_n this]
          exact ⟨q1, q2⟩
    · intro hne r hr
      by_cases er : r = x
      · rw [er, fu_s]; exact fun z => hfree x hxn z.symm
      · rw [fu_n er]
        exact fun z => er (h9 r x hr hxn z (by rw [z]; exact hne))
    · intro a' Q' g1 g2 g3 g4 g5
      refine h a' Q' (fun j z1 z2 => ?_) g2 g3 g4 (fun r hr => ?_)
      · rw [g1 j z1 z2, va_up_ne _ _ z2, va_up_ne _ _ z1]
      · rw [g5 r hr]
        show upd (a 48) x (nI u) r = a 48 r
        exact pk_un (by omega)
/-- the costs: a rank of 1 to 9 times seconds less a hundred million -/
def CW (C : Nat → Nat → Int) : Prop := ∃ (wt : Nat → Int) (sx : Nat → Nat → Int), (∀ r, 1 ≤ wt r ∧ wt r ≤ 9) ∧ ∀ r u, C r u ≠ 0 → C r u = wt r * (-100000000) + wt r * sx r u ∧ 0 ≤ sx r u ∧ sx r u ≤ 99999
theorem ky_C {n : Nat} {C : Nat → Nat → Int} {wt : Nat → Int} {sx : Nat → Nat → Int} (h : ∀ r u, C r u ≠ 0 → C r u = wt r * (-100000000) + wt r * sx r u ∧ 0 ≤ sx r u ∧ sx r u ≤ 99999) {P : Nat → Nat} (hP : okP n (al C) P) : ky n C P = ky n (fun r _ => wt r) P * (-100000000) + ky n (fun r u => wt r * sx r u) P := by
  rw [← ky_two]
  refine sm_congr (fun r hr => ?_)
  show (if P r = 12 then 0 else C r (P r)) = if P r = 12 then 0 else _
  by_cases e : P r = 12
  · rw [if_pos e, if_pos e]
  · rw [if_neg e, if_neg e]
    rcases hP.1 r hr with z | z
    · exact absurd z e
    · exact (h r (P r) z.2).1
theorem ws_bd {w s : Int} (h1 : 1 ≤ w) (h2 : w ≤ 9) (h3 : 0 ≤ s) (h4 : s ≤ 99999) : 0 ≤ w * s ∧ w * s ≤ 899991 := by
  refine ⟨Int.mul_nonneg (by omega) h3, ?_⟩
  have a1 : w * s ≤ 9 * s := Int.mul_le_mul_of_nonneg_right h2 h3
  omega
theorem ky_S {n : Nat} (hn : n ≤ 10) {C : Nat → Nat → Int} {wt : Nat → Int} {sx : Nat → Nat → Int} (hw : ∀ r, 1 ≤ wt r ∧ wt r ≤ 9) (h : ∀ r u, C r u ≠ 0 → C r u = wt r * (-100000000) + wt r * sx r u ∧ 0 ≤ sx r u ∧ sx r u ≤ 99999) {P : Nat → Nat} (hP : okP n (al C) P) : 0 ≤ ky n (fun r u => wt r * sx r u) P ∧ ky n (fun r u => wt r * sx r u) P ≤ 8999910 := by
  have g := ky_bounds (n := n) (a := fun r u => wt r * sx r u) (P := P) (lo := 0) (hi := 899991) (Int.le_refl 0) (by decide) (fun r hr e => by
    rcases hP.1 r hr with z | z
    · exact absurd z e
    · obtain ⟨q1, q2, q3⟩ := h r (P r) z.2
      exact ws_bd (hw r).1 (hw r).2 q2 q3)
  omega
theorem ky_T {n : Nat} (hn : n ≤ 10) {P : Nat → Nat} (hP : ∀ r, r < n → P r ≤ 12) : -1378584918490 ≤ ky n tieI P ∧ ky n tieI P ≤ 0 := by
  have g := ky_bounds (n := n) (a := tieI) (P := P) (lo := -137858491849) (hi := 0) (by decide) (Int.le_refl 0) (fun r hr e => by
    have := hP r hr
    exact tieI_bd r (by omega) (P r) (by omega))
  omega
theorem ky_W {n : Nat} {C : Nat → Nat → Int} {P : Nat → Nat} : ky n (wgt C) P = ky n C P * 1152921504606846976 + ky n tieI P := ky_two n C tieI _ P
/-- one more row with a unit saves -/
theorem saves {n : Nat} (hn : n ≤ 10) {C : Nat → Nat → Int} (hC : CW C) {P P' : Nat → Nat} (hP : okP n (al C) P) (hP' : okP n (al C) P') (hs : ∀ r, r < n → P r ≠ 12 → P' r ≠ 12) (hc : cn n P + 1 ≤ cn n P') : ky n (wgt C) P' < ky n (wgt C) P := by
  obtain ⟨wt, sx, hw, h⟩ := hC
  have a1 := ky_C h hP
  have a2 := ky_C h hP'
  have b1 := ky_S hn hw h hP
  have b2 := ky_S hn hw h hP'
  have c1 := ky_T hn hP.le
  have c2 := ky_T hn hP'.le
  have d := rank_more (n := n) (wt := wt) (P := P) (Q := P') (fun r _ => (hw r).1) hs hc
  rw [ky_W, ky_W]
  omega
def fr4 (a a' : wA) : Prop := ∀ j, j ≠ 48 → j ≠ 49 → j ≠ 51 → j ≠ 54 → a' j = a j
/-- what pair leaves -/
def prd (n : Nat) (C : Nat → Nat → Int) (mx : Int) (a : wA) (b : wB) (P : Nat → Nat) (a' : wA) (b' : wB) : Prop := best n (al C) (wgt C) mx P ∧ (∀ r, r < n → a' 48 r = en 12 (P r)) ∧ (∀ r, n ≤ r → a' 48 r = -1) ∧ fr4 a a' ∧ frb b b'
theorem P_pair {po : wF → wA → wB → Prop} {n : Nat} {C : Nat → Nat → Int} {x2 : Int32} {f : wF} {a : wA} {b : wB} (hn : n ≤ 10) (hb : ∀ r u, r < 10 → u < 12 → b (27 + r) u = Int64.ofInt (C r u) ∧ b (38 + r) u = Int64.ofInt (tieI r u)) (hC : CW C) (hC2 : ∀ r u, r < 10 → u < 12 → -900000000 ≤ C r u ∧ C r u ≤ 0) (h : ∀ P a' b', prd n C (max x2.toInt 0) a b P a' b' → po f a' b') : wp_P_pair po (nI n) x2 f a b := by
  refine pk_loop (σ := wA × wB) (fun m d s => wp_P_pair_18 po m (nI n) x2 (nI d) f s.1 s.2) (fun d s => ∃ P Q, PC n C P Q s.1 s.2 ∧ upto n (al C) (wgt C) P ∧ cn n P = (d : Int) ∧ (d : Int) ≤ max x2.toInt 0 ∧ fr4 a s.1 ∧ frb b s.2 ∧ ∀ r, n ≤ r → s.1 48 r = -1) n 0 (va_up (va_up a 48 (fun _ => -1)) 49 (fun _ => -1), b) (by omega) ⟨fun _ => 12, fun _ => 10, ⟨hn, hb, hC2, fun r hr => ⟨rfl, Nat.le_refl 12⟩, fun u hu => rfl, fun v hv => Or.inl ⟨rfl, fun r _ => by show (12 : Nat) ≠ v; omega⟩⟩, ?_, ?_, by omega, fun j h1 h2 _ _ => (va_up_ne _ _ h2).trans (va_up_ne _ _ h1), frb.r, fun r hr => rfl⟩ ?_ ?_
  · refine upto_none (fun _ _ => rfl) (b := -1037629354146162278400000000000) (by decide) (fun r u hr hu _ => ?_)
    have g1 := hC2 r u (by omega) hu
    have g2 := tieI_bd r (by omega) u hu
    unfold wgt
    omega
  · exact cn_none (fun _ _ => rfl)
  · rintro m ⟨a1, b1⟩ ⟨P, Q, g1, g2, g3, g4, g5, g6, g7⟩
    refine pk_le n n (fun _ => ?_) (fun y => absurd y (by omega))
    obtain ⟨b1', b2', b3'⟩ := upto_best g2
    exact h P a1 b1 ⟨⟨b1', by omega, fun Q' hQ' hc' => b3' Q' hQ' (by have := cn_le n Q'; omega)⟩, fun r hr => (g1.2.2.2.1 r hr).1, g7, g5, g6⟩
  · rintro m d ⟨a1, b1⟩ hd ⟨P, Q, g1, g2, g3, g4, g5, g6, g7⟩ ih
    refine pk_le n d (fun y => absurd y (by omega)) (fun _ => ⟨fun c => ?_, fun c => ?_⟩)
    · rw [Int32.le_iff_toInt_le, nI_toInt (by omega)] at c
      obtain ⟨b1', b2', b3'⟩ := upto_best g2
      exact h P a1 b1 ⟨⟨b1', by omega, fun Q' hQ' hc' => b3' Q' hQ' (by omega)⟩, fun r hr => (g1.2.2.2.1 r hr).1, g7, g5, g6⟩
    · rw [Int32.le_iff_toInt_le, nI_toInt (by omega)] at c
      obtain ⟨hok, pr, pu, top, ht, hp⟩ := id g2
      have g1' : PC n C P Q a1 b1 := g1
      refine P_findPaths g1' hp hok (fun a2 b2 ⟨q1, q2, rc, rt, uc, ut, fr, fs, ch, q3, q4⟩ => ?_)
      have hc2 : PC n C P Q a2 b2 := g1'.c q1 q2
      have hfr4 : fr4 a a2 := fun j z1 z2 z3 z4 => (q1 j z3 z4).trans (g5 j z1 z2 z3 z4)
      have hfree : ∀ u, u < 12 → ((∀ r, r < n → P r ≠ u) ↔ Q u = 10) := fun u hu => by
        rcases g1'.2.2.2.2.2 u hu with ⟨z1, z2⟩ | ⟨z1, z2⟩
        · exact ⟨fun _ => z1, fun _ => z2⟩
        · exact ⟨fun y => absurd z2 (y (Q u) z1), fun y => by omega⟩
      refine P_cheapestEnd hc2 q3 (fun hz => ip' rfl (h P a2 b2 ⟨upto_all ht hp hok q4 (fun u hu hf => hz u hu ((hfree u hu).mp hf)) (by omega), fun r hr => (hc2.2.2.2.1 r hr).1, fun r hr => ?_, hfr4, frb.t g6 q2⟩)) (fun e he hQ hfe hmin => iN' (m1ne (by omega)) ?_)
      · rw [q1 48 (by decide) (by decide)]; exact g7 r hr
      · have hfr := (hfree e he).mpr hQ
        obtain ⟨w1, w2, w3, w4⟩ := aug_way hok q4 he hfe
        have hlen := nodup_len n (ch (fr e)) w2 (fun x hx => (w3 x hx).1)
        refine ⟨(ch (fr e)).length + 1, ?_⟩
        have hgo := P_turnPath (po := fun f49 a49 b49 => wp_P_pair_18 po m (nI n) x2 (nI d + 1) f49 a49 b49) (f := f) (b := b2) hn (ch (fr e)) e 0 P Q a2 (by omega) (by omega) w2 w1 (fun x hx => (w3 x hx).1) (fun v hv => (q3.1 v hv).1) hc2.2.2.2.1 hc2.2.2.2.2.1 hok.2 (fun v hv _ => hc2.2.2.2.2.2 v hv) (fun _ => hfr) (fun a3 Q3 t1 t2 t3 t4 t5 => ?_)
        · rw [en_n (by omega)] at hgo
          exact hgo
        · rw [nI_1]
          have hokn := aug_ok hok q4 he hfe hfr
          have hcnn := aug_cn hok q4 he hfe
          have hkyn := aug_ky hn hok q4 he hfe
          have hsv := saves hn hC hok hokn (fun r hr hne => by
            by_cases hm : r ∈ ch (fr e)
            · have := (aug_fit hok q4 he hfe hm).1
              omega
            · rw [turn_out _ _ _ r hm]; exact hne) (by omega)
          refine ih (a3, b2) ⟨turn (ch (fr e)) e P, Q3, ⟨hn, hc2.2.1, hC2, t2, t3, t4⟩, ⟨hokn, _, _, _, by omega, aug_pot hn hp hok q4 he hfe hfr (fun u hu hf hf2 => hmin u hu ((hfree u hu).mp hf) hf2)⟩, ?_, by omega, fun j z1 z2 z3 z4 => (t1 j z1 z2).trans (hfr4 j z1 z2 z3 z4), frb.t g6 q2, fun r hr => ?_⟩
          · rw [hcnn, g3]; rfl
          · show a3 48 r = -1
            rw [t5 r hr, q1 48 (by decide) (by decide)]; exact g7 r hr
