/-! Pure rows: a turned cheapest way gives a best pairing of one row more; no way left: a best pairing of all. -/
/-- the unit that a row of the way had goes to a row of the way -/
theorem aug_next {fr : Nat → Nat} : ∀ (l : List Nat) (u : Nat) (P : Nat → Nat), l.Nodup → pth P fr u l → ∀ r, r ∈ l → P r ≠ 12 → (∀ y, y ∈ l → turn l u P y ≠ P r) → False
  | [], _, _, _, _, r, h, _, _ => by cases h
  | x :: l, u, P, hd, hp, r, h, h12, hy => by
    obtain ⟨hx, hd2⟩ := List.nodup_cons.mp hd
    obtain ⟨p1, p2, p3⟩ := hp
    by_cases e : r = x
    · subst e
      -- the next row of the way takes it
      cases l with
      | nil => exact h12 p3
      | cons y t =>
        obtain ⟨q1, q2, q3⟩ := p3
        have hyn : y ∉ t := (List.nodup_cons.mp hd2).1
        have := hy y (List.mem_cons_of_mem _ List.mem_cons_self)
        apply this
        show turn t (fu P r u y) (fu (fu P r u) y (P r)) y = P r
        rw [turn_out t _ _ y hyn, fu_s]
    · have hm : r ∈ l := by
        rcases List.mem_cons.mp h with h | h
        · exact absurd h e
        · exact h
      refine aug_next l (P x) (fu P x u) hd2 (pth_up l (P x) hx p3) r hm (by rw [fu_n e]; exact h12) (fun y hyl => ?_)
      rw [fu_n e]
      exact hy y (List.mem_cons_of_mem _ hyl)
theorem aug_head {fr : Nat → Nat} : ∀ (l : List Nat) (u : Nat) (P : Nat → Nat), l.Nodup → pth P fr u l → fr u ∈ l → turn l u P (fr u) = u
  | [], _, _, _, _, h => by cases h
  | x :: l, u, P, hd, hp, h => by
    obtain ⟨hx, hd2⟩ := List.nodup_cons.mp hd
    obtain ⟨p1, p2, p3⟩ := hp
    rw [p2]
    show turn l (P x) (fu P x u) x = u
    rw [turn_out l _ _ x hx, fu_s]
section AUG
variable {n : Nat} {al : Nat → Nat → Prop} {w : Nat → Nat → Int} {P : Nat → Nat} {pr pu rd ud : Nat → Int} {top : Int} {fr : Nat → Nat} {ch : Nat → List Nat}
theorem aug_way (hok : okP n al P) (h : bfe n al w P pr rd ud fr ch) {e : Nat} (he : e < 12) (hfe : fr e ≠ 10) : pth P fr e (ch (fr e)) ∧ (ch (fr e)).Nodup ∧ (∀ x, x ∈ ch (fr e) → x < n ∧ rch P fr x ∧ rd x - pr x ≤ rd (fr e) - pr (fr e)) ∧ fr e < n := by
  have hx : fr e < n ∧ rch P fr (fr e) := by
    obtain ⟨⟨-, -, b3, -, -, -⟩, -⟩ := h
    obtain ⟨d1, d2, d3, d4, d5⟩ := b3 e he hfe
    exact ⟨d1, d4⟩
  obtain ⟨l, hl, hp⟩ := bfe_pth h hok.le _ (fr e) hx.1 hx.2 (Nat.le_refl _)
  obtain ⟨⟨-, -, -, -, b5, -⟩, -⟩ := h
  obtain ⟨a, b, -⟩ := b5 (fr e) hx.1 hx.2
  refine ⟨?_, b, a, hx.1⟩
  rw [hl]
  exact ⟨by omega, rfl, hp⟩
/-- the units that the turned way gives are of the pairing, or the free one -/
theorem aug_fit (hok : okP n al P) (h : bfe n al w P pr rd ud fr ch) {e : Nat} (he : e < 12) (hfe : fr e ≠ 10) {r : Nat} (hr : r ∈ ch (fr e)) : turn (ch (fr e)) e P r < 12 ∧ fr (turn (ch (fr e)) e P r) = r ∧ (turn (ch (fr e)) e P r = e ∨ ∃ x, x ∈ ch (fr e) ∧ P x = turn (ch (fr e)) e P r) := by
  obtain ⟨w1, w2, w3, w4⟩ := aug_way hok h he hfe
  obtain ⟨q1, q2, q3⟩ := turn_in _ e P w2 w1 r hr
  refine ⟨?_, q2, q3⟩
  rcases q3 with q3 | ⟨x, hx, q3⟩
  · omega
  · have := hok.le x (w3 x hx).1
    omega
theorem aug_ok (hok : okP n al P) (h : bfe n al w P pr rd ud fr ch) {e : Nat} (he : e < 12) (hfe : fr e ≠ 10) (hfree : ∀ r, r < n → P r ≠ e) : okP n al (turn (ch (fr e)) e P) := by
  obtain ⟨w1, w2, w3, w4⟩ := aug_way hok h he hfe
  refine ⟨fun r hr => ?_, fun r q hr hq e1 e2 => ?_⟩
  · by_cases hm : r ∈ ch (fr e)
    · obtain ⟨f1, f2, f3⟩ := aug_fit hok h he hfe hm
      obtain ⟨⟨-, -, b3, -, -, -⟩, -⟩ := h
      have hr10 : fr (turn (ch (fr e)) e P r) ≠ 10 := by
        rcases f3 with f3 | ⟨x, hx, f3⟩
        · rw [f3]; exact hfe
        · rcases (w3 x hx).2.1 with g | g
          · omega
          · rw [← f3]; exact g
      obtain ⟨d1, d2, d3, d4, d5⟩ := b3 _ f1 hr10
      rw [f2] at d2
      exact Or.inr ⟨f1, d2⟩
    · rw [turn_out _ _ _ r hm]
      exact hok.1 r hr
  · by_cases h1 : r ∈ ch (fr e) <;> by_cases h2 : q ∈ ch (fr e)
    · have f1 := (aug_fit hok h he hfe h1).2.1
      have f2 := (aug_fit hok h he hfe h2).2.1
      rw [e1] at f1
      exact f1.symm.trans f2
    · have f1 := (aug_fit hok h he hfe h1).2.2
      rw [turn_out _ _ _ q h2] at e1
      rw [e1] at f1 e2
      rcases f1 with f1 | ⟨x, hx, f1⟩
      · exact absurd f1 (hfree q hq)
      · have := hok.2 q x hq (w3 x hx).1 f1.symm e2
        exact absurd (by rw [this]; exact hx) h2
    · have f1 := (aug_fit hok h he hfe h2).2.2
      rw [turn_out _ _ _ r h1] at e1 e2
      rw [← e1] at f1
      rcases f1 with f1 | ⟨x, hx, f1⟩
      · exact absurd f1 (hfree r hr)
      · have := hok.2 r x hr (w3 x hx).1 f1.symm e2
        exact absurd (by rw [this]; exact hx) h1
    · rw [turn_out _ _ _ r h1] at e1 e2
      rw [turn_out _ _ _ q h2] at e1
      exact hok.2 r q hr hq e1 e2
theorem aug_cn (hok : okP n al P) (h : bfe n al w P pr rd ud fr ch) {e : Nat} (he : e < 12) (hfe : fr e ≠ 10) : cn n (turn (ch (fr e)) e P) = cn n P + 1 := by
  obtain ⟨w1, w2, w3, w4⟩ := aug_way hok h he hfe
  have a := turn_cn (n := n) (fr := fr) _ e P w2 w1 (fun x hx => (w3 x hx).1)
  rw [if_neg (by omega)] at a
  exact a
theorem aug_ky (hn : n ≤ 10) (hok : okP n al P) (h : bfe n al w P pr rd ud fr ch) {e : Nat} (he : e < 12) (hfe : fr e ≠ 10) : ky n w (turn (ch (fr e)) e P) = ky n w P + ud e := by
  obtain ⟨w1, w2, w3, w4⟩ := aug_way hok h he hfe
  have a := turn_ky (n := n) (w := w) (fr := fr) (rd := rd) (ud := fun v => if v < 12 then ud v else rd (fr v) + w (fr v) v) _ e P w2 w1 (fun x hx => (w3 x hx).1) (fun v hv hm => by
      show (if v < 12 then ud v else rd (fr v) + w (fr v) v) = _
      by_cases hl : v < 12
      · rw [if_pos hl]
        exact bfe_eq h hl (by have := (w3 _ hm).1; omega)
      · rw [if_neg hl])
    (fun x hx => by
      obtain ⟨⟨b1, b2, -, -, -, -⟩, -⟩ := h
      obtain ⟨g1, g2, -⟩ := w3 x hx
      by_cases e2 : P x = 12
      · rw [if_pos e2]
        exact (b1 x g1 e2).1
      · rw [if_neg e2]
        have hl : P x < 12 := by have := hok.le x g1; omega
        show rd x = (if P x < 12 then ud (P x) else _) - w x (P x)
        rw [if_pos hl]
        rcases g2 with g2 | g2
        · exact absurd g2 e2
        · exact b2 x g1 e2 g2)
  rw [if_neg (by omega)] at a
  rw [a]
  show ky n w P + (if e < 12 then ud e else _) = _
  rw [if_pos he]
/-- the new potentials: what was found on the way, and d more where that isn't less -/
def npr (P fr : Nat → Nat) (pr rd : Nat → Int) (d : Int) : Nat → Int := fun r => if P r = 12 ∨ fr (P r) ≠ 10 then min (rd r) (pr r + d) else pr r + d
def npu (fr : Nat → Nat) (pu ud : Nat → Int) (d : Int) : Nat → Int := fun u => if fr u = 10 then pu u + d else min (ud u) (pu u + d)
/-- no allowed pair lies below the new potentials, for any d from 0 on -/
theorem np_low (hp : pot n al w P pr pu top) (hok : okP n al P) (h : bfe n al w P pr rd ud fr ch) {d : Int} (hd : 0 ≤ d) : ∀ r u, r < n → u < 12 → al r u → npu fr pu ud d u ≤ w r u + npr P fr pr rd d r := by
  intro r u hr hu ha
  obtain ⟨p1, p2, p3, p4⟩ := hp
  have g1 := p1 r u hr hu ha
  show (if fr u = 10 then pu u + d else min (ud u) (pu u + d)) ≤ w r u + (if P r = 12 ∨ fr (P r) ≠ 10 then min (rd r) (pr r + d) else pr r + d)
  by_cases hc : P r = 12 ∨ fr (P r) ≠ 10
  · rw [if_pos hc]
    by_cases e : P r = u
    · have hfu : fr u ≠ 10 := by
        rcases hc with hc | hc
        · omega
        · rw [← e]; exact hc
      rw [if_neg hfu]
      obtain ⟨⟨-, b2, -, -, -, -⟩, -⟩ := h
      have g := b2 r hr (by omega) (by rw [e]; exact hfu)
      have g2 := p2 r hr (by omega)
      rw [e] at g g2
      omega
    · obtain ⟨q1, q2⟩ := h.2 r hr hc u hu hu ha e
      rw [if_neg q1]
      omega
  · rw [if_neg hc]
    by_cases e : fr u = 10
    · rw [if_pos e]; omega
    · rw [if_neg e]; omega
/-- a pair of the old pairing lies on the new potentials -/
theorem np_old (hp : pot n al w P pr pu top) (hok : okP n al P) (h : bfe n al w P pr rd ud fr ch) {d : Int} : ∀ r, r < n → P r ≠ 12 → w r (P r) + npr P fr pr rd d r = npu fr pu ud d (P r) := by
  intro r hr hP
  obtain ⟨p1, p2, p3, p4⟩ := hp
  have g2 := p2 r hr hP
  show w r (P r) + (if P r = 12 ∨ fr (P r) ≠ 10 then min (rd r) (pr r + d) else pr r + d) = (if fr (P r) = 10 then pu (P r) + d else min (ud (P r)) (pu (P r) + d))
  by_cases hc : fr (P r) = 10
  · rw [if_neg (by
      intro q
      rcases q with q | q
      · exact hP q
      · exact q hc), if_pos hc]
    omega
  · rw [if_pos (Or.inr hc), if_neg hc]
    obtain ⟨⟨-, b2, -, -, -, -⟩, -⟩ := h
    have g := b2 r hr hP hc
    omega
theorem np_row (hp : pot n al w P pr pu top) (h : bfe n al w P pr rd ud fr ch) {d : Int} (hd : 0 ≤ d) : ∀ r, r < n → 0 ≤ npr P fr pr rd d r ∧ (P r = 12 → npr P fr pr rd d r = 0) := by
  intro r hr
  obtain ⟨p1, p2, p3, p4⟩ := hp
  obtain ⟨g1, g2⟩ := p3 r hr
  obtain ⟨⟨b1, -, -, b4, -, -⟩, -⟩ := h
  show 0 ≤ (if P r = 12 ∨ fr (P r) ≠ 10 then min (rd r) (pr r + d) else pr r + d) ∧ (P r = 12 → (if P r = 12 ∨ fr (P r) ≠ 10 then min (rd r) (pr r + d) else pr r + d) = 0)
  refine ⟨?_, fun e => ?_⟩
  · by_cases hc : P r = 12 ∨ fr (P r) ≠ 10
    · rw [if_pos hc]
      have := b4 r hr hc
      omega
    · rw [if_neg hc]
      omega
  · rw [if_pos (Or.inl e)]
    have := (b1 r hr e).1
    have := g2 e
    omega
/-- one row more has a unit: the best pairing's potentials -/
theorem aug_pot (hn : n ≤ 10) (hp : pot n al w P pr pu top) (hok : okP n al P) (h : bfe n al w P pr rd ud fr ch) {e : Nat} (he : e < 12) (hfe : fr e ≠ 10) (hfree : ∀ r, r < n → P r ≠ e)
    (hmin : ∀ u, u < 12 → (∀ r, r < n → P r ≠ u) → fr u ≠ 10 → ud e ≤ ud u) : pot n al w (turn (ch (fr e)) e P) (npr P fr pr rd (ud e - top)) (npu fr pu ud (ud e - top)) (ud e) := by
  obtain ⟨w1, w2, w3, w4⟩ := aug_way hok h he hfe
  have hfit := fun r hr => aug_fit (r := r) hok h he hfe hr
  have hpe : pu e = top := (hp.2.2.2 e he).2 hfree
  have hde := bfe_eq h he hfe
  obtain ⟨d1, d2, d3, d4, d5⟩ : fr e < n ∧ al (fr e) e ∧ P (fr e) ≠ e ∧ rch P fr (fr e) ∧ rd (fr e) + w (fr e) e ≤ ud e := by
    obtain ⟨⟨-, -, b3, -, -, -⟩, -⟩ := h
    exact b3 e he hfe
  have hlo := hp.1 (fr e) e d1 he d2
  have hb4 : ∀ r, r < n → rch P fr r → pr r ≤ rd r := by
    obtain ⟨⟨-, -, -, b4, -, -⟩, -⟩ := h
    exact b4
  have hd : 0 ≤ ud e - top := by
    have := hb4 (fr e) d1 d4
    omega
  refine ⟨np_low hp hok h hd, ?_, ?_, ?_⟩
  · intro r hr hP
    by_cases hm : r ∈ ch (fr e)
    · obtain ⟨f1, f2, f3⟩ := hfit r hm
      obtain ⟨x1, x2, x3⟩ := w3 r hm
      generalize hu : turn (ch (fr e)) e P r = u at f1 f2 f3 hP ⊢
      have hu10 : fr u ≠ 10 := by omega
      have heq := bfe_eq h f1 hu10
      rw [f2] at heq
      show w r u + (if P r = 12 ∨ fr (P r) ≠ 10 then min (rd r) (pr r + (ud e - top)) else pr r + (ud e - top)) = (if fr u = 10 then pu u + (ud e - top) else min (ud u) (pu u + (ud e - top)))
      rw [if_pos (show P r = 12 ∨ fr (P r) ≠ 10 from x2), if_neg hu10]
      have hsu : ud u - pu u ≤ ud e - top := by
        rcases f3 with f3 | ⟨x, hx, f3⟩
        · rw [f3, hpe]; exact Int.le_refl _
        · obtain ⟨y1, y2, y3⟩ := w3 x hx
          obtain ⟨⟨-, b2, -, -, -, -⟩, -⟩ := h
          have hx12 : P x ≠ 12 := by omega
          have k1 := b2 x y1 hx12 (by rw [f3]; exact hu10)
          have k2 := hp.2.1 x y1 hx12
          rw [f3] at k1 k2
          omega
      omega
    · rw [turn_out _ _ _ r hm] at hP ⊢
      exact np_old hp hok h r hr hP
  · intro r hr
    obtain ⟨g1, g2⟩ := np_row hp h hd r hr
    refine ⟨g1, fun e2 => ?_⟩
    by_cases hm : r ∈ ch (fr e)
    · have := (hfit r hm).1
      omega
    · rw [turn_out _ _ _ r hm] at e2
      exact g2 e2
  · intro u hu
    have g1 := (hp.2.2.2 u hu).1
    refine ⟨?_, fun hf => ?_⟩
    · show (if fr u = 10 then pu u + (ud e - top) else min (ud u) (pu u + (ud e - top))) ≤ ud e
      by_cases e2 : fr u = 10
      · rw [if_pos e2]; omega
      · rw [if_neg e2]; omega
    · have hf2 : ∀ r, r < n → P r ≠ u := by
        intro r hr e2
        by_cases hm : r ∈ ch (fr e)
        · -- the unit of a row of the way goes to the next row of it
          exact aug_next (fr := fr) _ e P w2 w1 r hm (by omega) (fun y hy => by
            have := hf y (w3 y hy).1
            rw [e2]
            exact this)
        · have := hf r hr
          rw [turn_out _ _ _ r hm] at this
          exact this e2
      have hue : u ≠ e := by
        intro e2
        have := hf (fr e) d1
        exact this (by
          have hm : fr e ∈ ch (fr e) := by
            obtain ⟨⟨-, -, -, -, b5, -⟩, -⟩ := h
            exact (b5 (fr e) d1 d4).2.2
          rw [e2]
          exact aug_head (fr := fr) _ e P w2 w1 hm)
      have g3 := (hp.2.2.2 u hu).2 hf2
      show (if fr u = 10 then pu u + (ud e - top) else min (ud u) (pu u + (ud e - top))) = ud e
      by_cases e2 : fr u = 10
      · rw [if_pos e2]; omega
      · rw [if_neg e2]
        have := hmin u hu hf2 e2
        omega
end AUG
