/-! the reference's table and choice, without the machine -/
section DP
variable (may : Nat → Nat → Nat → Prop) (sv : Nat → Nat → Int) (rk : Nat → Int) (U : Nat)
noncomputable def mnv (nxt : Nat → Int) (i t : Nat) : Nat → Int
  | 0 => 1000000000000 * rk i + nxt t
  | k + 1 => cif (may i k t ∧ sv i k + nxt (t ||| 2 ^ k) < mnv nxt i t k) (sv i k + nxt (t ||| 2 ^ k)) (mnv nxt i t k)
noncomputable def lst : Nat → Nat → Nat → Int
  | 0, _, _ => 0
  | m + 1, i, t => mnv may sv rk (lst m (i + 1)) i t U
variable {may sv rk U}
theorem mnv_y {nxt : Nat → Int} {i t k : Nat} (h : may i k t ∧ sv i k + nxt (t ||| 2 ^ k) < mnv may sv rk nxt i t k) : mnv may sv rk nxt i t (k + 1) = sv i k + nxt (t ||| 2 ^ k) := cif_p h
theorem mnv_n {nxt : Nat → Int} {i t k : Nat} (h : ¬ (may i k t ∧ sv i k + nxt (t ||| 2 ^ k) < mnv may sv rk nxt i t k)) : mnv may sv rk nxt i t (k + 1) = mnv may sv rk nxt i t k := cif_n h
theorem mnv_mono {nxt : Nat → Int} {i t k : Nat} : mnv may sv rk nxt i t (k + 1) ≤ mnv may sv rk nxt i t k := by
  by_cases h : may i k t ∧ sv i k + nxt (t ||| 2 ^ k) < mnv may sv rk nxt i t k
  · rw [mnv_y h]; omega
  · rw [mnv_n h]; omega
theorem mnv_0 {nxt : Nat → Int} {i t : Nat} : ∀ k, mnv may sv rk nxt i t k ≤ 1000000000000 * rk i + nxt t
  | 0 => Int.le_refl _
  | k + 1 => Int.le_trans mnv_mono (mnv_0 k)
theorem mnv_le {nxt : Nat → Int} {i t j : Nat} (hm : may i j t) : ∀ k, j < k → mnv may sv rk nxt i t k ≤ sv i j + nxt (t ||| 2 ^ j)
  | 0, h => absurd h (Nat.not_lt_zero j)
  | k + 1, h => by
    by_cases e : j = k
    · subst e
      by_cases h : may i j t ∧ sv i j + nxt (t ||| 2 ^ j) < mnv may sv rk nxt i t j
      · rw [mnv_y h]; omega
      · rw [mnv_n h]
        by_cases h2 : sv i j + nxt (t ||| 2 ^ j) < mnv may sv rk nxt i t j
        · exact absurd ⟨hm, h2⟩ h
        · omega
    · exact Int.le_trans mnv_mono (mnv_le hm k (by omega))
theorem mnv_at {nxt : Nat → Int} {i t : Nat} : ∀ k, mnv may sv rk nxt i t k = 1000000000000 * rk i + nxt t ∨ ∃ j, j < k ∧ may i j t ∧ mnv may sv rk nxt i t k = sv i j + nxt (t ||| 2 ^ j)
  | 0 => Or.inl rfl
  | k + 1 => by
    by_cases h : may i k t ∧ sv i k + nxt (t ||| 2 ^ k) < mnv may sv rk nxt i t k
    · exact Or.inr ⟨k, by omega, h.1, mnv_y h⟩
    · rw [mnv_n h]
      rcases mnv_at (nxt := nxt) (i := i) (t := t) k with z | ⟨j, j1, j2, j3⟩
      · exact Or.inl z
      · exact Or.inr ⟨j, by omega, j2, j3⟩
/-- masks along a plan; what its rows cost -/
def tmk (t0 : Nat) (Q : Nat → Nat) : Nat → Nat
  | 0 => t0
  | i + 1 => if Q i = 12 then tmk t0 Q i else tmk t0 Q i ||| 2 ^ Q i
def rcf (sv : Nat → Nat → Int) (rk : Nat → Int) (Q : Nat → Nat) : Nat → Int := fun r => if Q r = 12 then 1000000000000 * rk r else sv r (Q r)
def scf (sv : Nat → Nat → Int) (rk : Nat → Int) (Q : Nat → Nat) : Nat → Nat → Int
  | 0, _ => 0
  | m + 1, i => rcf sv rk Q i + scf sv rk Q m (i + 1)
theorem scf_split {Q : Nat → Nat} : ∀ (i m : Nat), scf sv rk Q (i + m) 0 = sm (rcf sv rk Q) i + scf sv rk Q m i
  | 0, m => by
    rw [Nat.zero_add]
    show _ = 0 + _
    omega
  | i + 1, m => by
    have ih := scf_split (Q := Q) i (m + 1)
    rw [show i + 1 + m = i + (m + 1) by omega, ih]
    show _ + (rcf sv rk Q i + scf sv rk Q m (i + 1)) = (sm (rcf sv rk Q) i + rcf sv rk Q i) + _
    omega
theorem scf_sm {Q : Nat → Nat} (R : Nat) : scf sv rk Q R 0 = sm (rcf sv rk Q) R := by
  have := scf_split (sv := sv) (rk := rk) (Q := Q) R 0
  rw [Nat.add_zero] at this
  rw [this]
  show sm (rcf sv rk Q) R + 0 = _
  omega
/-- nothing allowed is less than the table says -/
theorem lst_le {t0 : Nat} {Q : Nat → Nat} : ∀ (m i : Nat), (∀ r, i ≤ r → r < i + m → Q r ≠ 12 → Q r < U ∧ may r (Q r) (tmk t0 Q r)) → lst may sv rk U m i (tmk t0 Q i) ≤ scf sv rk Q m i
  | 0, i, _ => Int.le_refl 0
  | m + 1, i, h => by
    have ih := lst_le (t0 := t0) (Q := Q) m (i + 1) (fun r h1 h2 => h r (by omega) (by omega))
    show mnv may sv rk (lst may sv rk U m (i + 1)) i (tmk t0 Q i) U ≤ rcf sv rk Q i + scf sv rk Q m (i + 1)
    have et : tmk t0 Q (i + 1) = if Q i = 12 then tmk t0 Q i else tmk t0 Q i ||| 2 ^ Q i := rfl
    rw [et] at ih
    unfold rcf
    by_cases e : Q i = 12
    · rw [if_pos e] at ih
      rw [if_pos e]
      have := mnv_0 (may := may) (sv := sv) (rk := rk) (nxt := lst may sv rk U m (i + 1)) (i := i) (t := tmk t0 Q i) U
      omega
    · rw [if_neg e] at ih
      rw [if_neg e]
      obtain ⟨g1, g2⟩ := h i (by omega) (by omega) e
      have := mnv_le (sv := sv) (rk := rk) (nxt := lst may sv rk U m (i + 1)) g2 U g1
      omega
/-- the least number below k with p, or 12 -/
noncomputable def lsp (p : Nat → Prop) : Nat → Nat
  | 0 => 12
  | k + 1 => cif (lsp p k = 12 ∧ p k) k (lsp p k)
theorem lsp_ok {p : Nat → Prop} : ∀ k, k ≤ 12 → (lsp p k = 12 ∧ ∀ u, u < k → ¬ p u) ∨ (lsp p k < k ∧ p (lsp p k) ∧ ∀ u, u < lsp p k → ¬ p u)
  | 0, _ => Or.inl ⟨rfl, fun u hu => absurd hu (Nat.not_lt_zero u)⟩
  | k + 1, hk => by
    have ih := lsp_ok (p := p) k (by omega)
    by_cases h : lsp p k = 12 ∧ p k
    · have e : lsp p (k + 1) = k := cif_p h
      rw [e]
      right
      refine ⟨by omega, h.2, fun u hu => ?_⟩
      rcases ih with z | z
      · exact z.2 u hu
      · omega
    · have e : lsp p (k + 1) = lsp p k := cif_n h
      rw [e]
      rcases ih with z | z
      · left
        refine ⟨z.1, fun u hu => ?_⟩
        by_cases e2 : u = k
        · rw [e2]; exact fun q => h ⟨z.1, q⟩
        · exact z.2 u (by omega)
      · exact Or.inr ⟨by omega, z.2⟩
/-- the unit attains the table's number -/
def hit (may : Nat → Nat → Nat → Prop) (sv : Nat → Nat → Int) (rk : Nat → Int) (U R r t u : Nat) : Prop := may r u t ∧ sv r u + lst may sv rk U (R - (r + 1)) (r + 1) (t ||| 2 ^ u) = lst may sv rk U (R - r) r t
noncomputable def tgm (may : Nat → Nat → Nat → Prop) (sv : Nat → Nat → Int) (rk : Nat → Int) (U R t0 : Nat) : Nat → Nat
  | 0 => t0
  | r + 1 => if lsp (hit may sv rk U R r (tgm may sv rk U R t0 r)) U = 12 then tgm may sv rk U R t0 r else tgm may sv rk U R t0 r ||| 2 ^ lsp (hit may sv rk U R r (tgm may sv rk U R t0 r)) U
noncomputable def grd (may : Nat → Nat → Nat → Prop) (sv : Nat → Nat → Int) (rk : Nat → Int) (U R t0 : Nat) : Nat → Nat := fun r => lsp (hit may sv rk U R r (tgm may sv rk U R t0 r)) U
theorem tgm_tmk {R t0 : Nat} : ∀ r, tmk t0 (grd may sv rk U R t0) r = tgm may sv rk U R t0 r
  | 0 => rfl
  | r + 1 => by
    show (if grd may sv rk U R t0 r = 12 then tmk t0 (grd may sv rk U R t0) r else tmk t0 (grd may sv rk U R t0) r ||| 2 ^ grd may sv rk U R t0 r) = _
    rw [tgm_tmk r]
    rfl
theorem grd_ok {R t0 : Nat} (hU : U ≤ 12) (r : Nat) : (grd may sv rk U R t0 r = 12 ∧ ∀ u, u < U → ¬ hit may sv rk U R r (tmk t0 (grd may sv rk U R t0) r) u) ∨ (grd may sv rk U R t0 r < U ∧ hit may sv rk U R r (tmk t0 (grd may sv rk U R t0) r) (grd may sv rk U R t0 r) ∧ ∀ u, u < grd may sv rk U R t0 r → ¬ hit may sv rk U R r (tmk t0 (grd may sv rk U R t0) r) u) := by
  rw [tgm_tmk r]
  exact lsp_ok U hU
/-- the choice attains what the table says -/
theorem grd_sc {R t0 : Nat} (hU : U ≤ 12) : ∀ (m i : Nat), i + m = R → lst may sv rk U m i (tmk t0 (grd may sv rk U R t0) i) = scf sv rk (grd may sv rk U R t0) m i
  | 0, i, _ => rfl
  | m + 1, i, h => by
    have ih := grd_sc (R := R) (t0 := t0) hU m (i + 1) (by omega)
    have et : tmk t0 (grd may sv rk U R t0) (i + 1) = if grd may sv rk U R t0 i = 12 then tmk t0 (grd may sv rk U R t0) i else tmk t0 (grd may sv rk U R t0) i ||| 2 ^ grd may sv rk U R t0 i := rfl
    rw [et] at ih
    have hg := grd_ok (may := may) (sv := sv) (rk := rk) (R := R) (t0 := t0) hU i
    unfold hit at hg
    rw [show R - (i + 1) = m by omega, show R - i = m + 1 by omega] at hg
    show _ = rcf sv rk (grd may sv rk U R t0) i + scf sv rk (grd may sv rk U R t0) m (i + 1)
    have er : rcf sv rk (grd may sv rk U R t0) i = if grd may sv rk U R t0 i = 12 then 1000000000000 * rk i else sv i (grd may sv rk U R t0 i) := rfl
    rw [er]
    generalize tmk t0 (grd may sv rk U R t0) i = t at ih hg ⊢
    rcases hg with ⟨g1, g2⟩ | ⟨g1, g2, g3⟩
    · rw [if_pos g1] at ih
      rw [if_pos g1, ← ih]
      show mnv may sv rk (lst may sv rk U m (i + 1)) i t U = _
      rcases mnv_at (may := may) (sv := sv) (rk := rk) (nxt := lst may sv rk U m (i + 1)) (i := i) (t := t) U with z | ⟨j, j1, j2, j3⟩
      · exact z
      · exact absurd ⟨j2, j3.symm⟩ (g2 j j1)
    · have hne : grd may sv rk U R t0 i ≠ 12 := by omega
      rw [if_neg hne] at ih
      rw [if_neg hne, ← ih]
      exact g2.2.symm
/-- ties: the first row in which two plans differ decides -/
theorem tie_lex {P G : Nat → Nat} {i : Nat} (hP : ∀ r, P r ≤ 12) (hG : ∀ r, G r ≤ 12) (he : ∀ q, q < i → P q = G q) (hlt : G i < P i) : ∀ R, i < R → R ≤ 10 → ky R tieI G + 13 ^ (10 - R) ≤ ky R tieI P
  | 0, h, _ => absurd h (Nat.not_lt_zero i)
  | R + 1, h, h10 => by
    have kf : ∀ (Q : Nat → Nat) (r : Nat), kyf tieI Q r = ((Q r : Int) - 12) * 13 ^ (9 - r) := fun Q r => by
      show (if Q r = 12 then 0 else tieI r (Q r)) = _
      by_cases e : Q r = 12
      · rw [if_pos e, e]; simp
      · rw [if_neg e]; rfl
    have e1 : ky (R + 1) tieI G = ky R tieI G + kyf tieI G R := rfl
    have e2 : ky (R + 1) tieI P = ky R tieI P + kyf tieI P R := rfl
    rw [e1, e2, kf, kf, show 10 - (R + 1) = 9 - R by omega]
    have hpos : (1 : Int) ≤ 13 ^ (9 - R) := Int.pow_pos (by decide)
    by_cases e : i = R
    · subst e
      have h0 : ky i tieI G = ky i tieI P := sm_congr (fun q hq => by unfold kyf; rw [he q hq])
      rw [h0]
      have g : ((G i : Int) - 12) * 13 ^ (9 - i) + 1 * 13 ^ (9 - i) ≤ ((P i : Int) - 12) * 13 ^ (9 - i) := by
        rw [← Int.add_mul]
        exact Int.mul_le_mul_of_nonneg_right (by omega) (by omega)
      omega
    · have ih := tie_lex hP hG he hlt R (by omega) (by omega)
      have e13 : (13 : Int) ^ (10 - R) = 13 ^ (9 - R) * 13 := by
        rw [show 10 - R = (9 - R) + 1 by omega, Int.pow_succ]
      have g : ((G R : Int) - 12) * 13 ^ (9 - R) ≤ ((P R : Int) - 12 + 12) * 13 ^ (9 - R) := Int.mul_le_mul_of_nonneg_right (by have := hG R; omega) (by omega)
      rw [Int.add_mul ((P R : Int) - 12) 12] at g
      omega
/-- a plan that costs as little and has no greater ties is the reference's choice -/
theorem grd_eq {R t0 : Nat} (hU : U ≤ 12) (hR : R ≤ 10) {P : Nat → Nat} (hP12 : ∀ r, P r ≤ 12) (hP : ∀ r, r < R → P r ≠ 12 → P r < U ∧ may r (P r) (tmk t0 P r)) (hsc : scf sv rk P R 0 ≤ scf sv rk (grd may sv rk U R t0) R 0) (ht : ky R tieI P ≤ ky R tieI (grd may sv rk U R t0)) : ∀ r, r < R → P r = grd may sv rk U R t0 r := by
  have hG12 : ∀ r, grd may sv rk U R t0 r ≤ 12 := fun r => by
    rcases grd_ok (may := may) (sv := sv) (rk := rk) (R := R) (t0 := t0) hU r with z | z
    · omega
    · omega
  have main : ∀ k, k ≤ R → ∀ r, r < k → P r = grd may sv rk U R t0 r := by
    intro k
    induction k with
    | zero => exact fun _ r hr => absurd hr (Nat.not_lt_zero r)
    | succ i ih =>
      intro hi
      have ih2 := ih (by omega)
      have hm : ∀ j, j ≤ i → tmk t0 P j = tmk t0 (grd may sv rk U R t0) j := by
        intro j
        induction j with
        | zero => exact fun _ => rfl
        | succ j jh =>
          intro hj
          show (if P j = 12 then tmk t0 P j else tmk t0 P j ||| 2 ^ P j) = if grd may sv rk U R t0 j = 12 then _ else _
          rw [jh (by omega), ih2 j (by omega)]
      have key : P i = grd may sv rk U R t0 i := by
        by_cases e : P i = grd may sv rk U R t0 i
        · exact e
        · exfalso
          have hlt : P i < grd may sv rk U R t0 i := by
            by_cases hgt : grd may sv rk U R t0 i < P i
            · have := tie_lex hP12 hG12 ih2 hgt R (by omega) hR
              have hpos : (0 : Int) < 13 ^ (10 - R) := Int.pow_pos (by decide)
              omega
            · omega
          have hne : P i ≠ 12 := by have := hG12 i; omega
          obtain ⟨p1, p2⟩ := hP i (by omega) hne
          have a1 := lst_le (may := may) (sv := sv) (rk := rk) (U := U) (t0 := t0) (Q := P) (R - (i + 1)) (i + 1) (fun r h1 h2 => hP r (by omega))
          have et : tmk t0 P (i + 1) = tmk t0 P i ||| 2 ^ P i := if_neg hne
          rw [et] at a1
          have b1 := grd_sc (may := may) (sv := sv) (rk := rk) (R := R) (t0 := t0) hU (R - i) i (by omega)
          have s1 := scf_split (sv := sv) (rk := rk) (Q := P) i (R - i)
          have s2 := scf_split (sv := sv) (rk := rk) (Q := grd may sv rk U R t0) i (R - i)
          rw [show i + (R - i) = R by omega] at s1 s2
          have s3 : sm (rcf sv rk P) i = sm (rcf sv rk (grd may sv rk U R t0)) i := sm_congr (fun q hq => by unfold rcf; rw [ih2 q hq])
          have c1 : scf sv rk P (R - i) i = sv i (P i) + scf sv rk P (R - (i + 1)) (i + 1) := by
            rw [show R - i = (R - (i + 1)) + 1 by omega]
            show rcf sv rk P i + _ = _
            unfold rcf
            rw [if_neg hne]
          have hle : lst may sv rk U (R - i) i (tmk t0 P i) ≤ sv i (P i) + lst may sv rk U (R - (i + 1)) (i + 1) (tmk t0 P i ||| 2 ^ P i) := by
            have g := mnv_le (sv := sv) (rk := rk) (nxt := lst may sv rk U (R - (i + 1)) (i + 1)) p2 U p1
            rw [show R - i = (R - (i + 1)) + 1 by omega]
            exact g
          rw [← hm i (Nat.le_refl i)] at b1
          have hhit : hit may sv rk U R i (tmk t0 P i) (P i) := ⟨p2, by omega⟩
          rw [hm i (Nat.le_refl i)] at hhit
          rcases grd_ok (may := may) (sv := sv) (rk := rk) (R := R) (t0 := t0) hU i with ⟨z1, z2⟩ | ⟨z1, z2, z3⟩
          · exact z2 (P i) p1 hhit
          · exact z3 (P i) hlt hhit
      intro r hr
      by_cases e : r = i
      · rw [e]; exact key
      · exact ih2 r (by omega)
  exact main R (Nat.le_refl R)
end DP
