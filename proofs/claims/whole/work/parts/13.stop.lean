/-! Pure rows: no way left; the weights of the class: cost * 2^60 + tie; each way found saves. -/
theorem stop_pot {n : Nat} {al : Nat → Nat → Prop} {w : Nat → Nat → Int} {P : Nat → Nat} {pr pu rd ud : Nat → Int} {top : Int} {fr : Nat → Nat} {ch : Nat → List Nat} (hp : pot n al w P pr pu top) (hok : okP n al P) (h : bfe n al w P pr rd ud fr ch)
    (hnone : ∀ u, u < 12 → (∀ r, r < n → P r ≠ u) → fr u = 10) {d : Int} (hd : 0 ≤ d) : pot n al w P (npr P fr pr rd d) (npu fr pu ud d) (top + d) := by
  refine ⟨np_low hp hok h hd, np_old hp hok h, np_row hp h hd, fun u hu => ?_⟩
  have g1 := (hp.2.2.2 u hu).1
  refine ⟨?_, fun hf => ?_⟩
  · show (if fr u = 10 then pu u + d else min (ud u) (pu u + d)) ≤ top + d
    by_cases e2 : fr u = 10
    · rw [if_pos e2]; omega
    · rw [if_neg e2]; omega
  · have g3 := (hp.2.2.2 u hu).2 hf
    show (if fr u = 10 then pu u + d else min (ud u) (pu u + d)) = top + d
    rw [if_pos (hnone u hu hf), g3]
/-- a pairing that is the best of all with at most so many units -/
def best (n : Nat) (al : Nat → Nat → Prop) (w : Nat → Nat → Int) (most : Int) (P : Nat → Nat) : Prop := okP n al P ∧ cn n P ≤ most ∧ ∀ Q, okP n al Q → cn n Q ≤ most → ky n w P ≤ ky n w Q
/-- the state between two ways: a best pairing of its number -/
def upto (n : Nat) (al : Nat → Nat → Prop) (w : Nat → Nat → Int) (P : Nat → Nat) : Prop := okP n al P ∧ ∃ (pr pu : Nat → Int) (top : Int), top ≤ 0 ∧ pot n al w P pr pu top
theorem upto_best {n : Nat} {al : Nat → Nat → Prop} {w : Nat → Nat → Int} {P : Nat → Nat} (h : upto n al w P) : best n al w (cn n P) P := by
  obtain ⟨hok, pr, pu, top, ht, hp⟩ := h
  exact ⟨hok, Int.le_refl _, fun Q hQ hc => pot_best_le hp hok hQ ht hc⟩
theorem upto_all {n : Nat} {al : Nat → Nat → Prop} {w : Nat → Nat → Int} {P : Nat → Nat} {pr pu rd ud : Nat → Int} {top : Int} {fr : Nat → Nat} {ch : Nat → List Nat} (ht : top ≤ 0) (hp : pot n al w P pr pu top) (hok : okP n al P) (h : bfe n al w P pr rd ud fr ch)
    (hnone : ∀ u, u < 12 → (∀ r, r < n → P r ≠ u) → fr u = 10) {most : Int} (hm : cn n P ≤ most) : best n al w most P := by
  refine ⟨hok, hm, fun Q hQ hc => ?_⟩
  by_cases e : cn n Q ≤ cn n P
  · exact pot_best_le hp hok hQ ht e
  · exact pot_best_ge (stop_pot hp hok h hnone (d := - top) (by omega)) hok hQ (by omega) (by omega)
/-- the first pairing: none -/
theorem upto_none {n : Nat} {al : Nat → Nat → Prop} {w : Nat → Nat → Int} {P : Nat → Nat} (hP : ∀ r, r < n → P r = 12) {b : Int} (hb : b ≤ 0) (hw : ∀ r u, r < n → u < 12 → al r u → b ≤ w r u) : upto n al w P := by
  refine ⟨⟨fun r hr => Or.inl (hP r hr), fun r q hr hq e1 e2 => absurd (hP r hr) e2⟩, fun _ => 0, fun _ => b, b, hb, ?_, ?_, ?_, ?_⟩
  · intro r u hr hu ha
    have := hw r u hr hu ha
    show b ≤ w r u + 0
    omega
  · intro r hr h
    exact absurd (hP r hr) h
  · intro r hr
    exact ⟨Int.le_refl 0, fun _ => rfl⟩
  · intro u hu
    exact ⟨Int.le_refl b, fun _ => rfl⟩
theorem cn_none {n : Nat} {P : Nat → Nat} (hP : ∀ r, r < n → P r = 12) : cn n P = 0 := by
  have h : cn n P = sm (fun _ => 0) n := sm_congr (fun i hi => if_pos (hP i hi))
  rw [h, sm_zero]
/-- the weights of two parts in one -/
theorem ky_two (n : Nat) (a b : Nat → Nat → Int) (k : Int) (P : Nat → Nat) : ky n (fun r u => a r u * k + b r u) P = ky n a P * k + ky n b P := by
  have h : ky n (fun r u => a r u * k + b r u) P = sm (fun i => kyf a P i * k + kyf b P i) n := sm_congr (fun i _ => by
    show (if P i = 12 then 0 else a i (P i) * k + b i (P i)) = (if P i = 12 then 0 else a i (P i)) * k + (if P i = 12 then 0 else b i (P i))
    by_cases e : P i = 12
    · rw [if_pos e, if_pos e, if_pos e]; omega
    · rw [if_neg e, if_neg e, if_neg e])
  rw [h, sm_add, sm_mul]
  rfl
/-- bounds of what a pairing weighs -/
theorem ky_bounds {n : Nat} {a : Nat → Nat → Int} {P : Nat → Nat} {lo hi : Int} (hlo : lo ≤ 0) (hhi : 0 ≤ hi) (h : ∀ r, r < n → P r ≠ 12 → lo ≤ a r (P r) ∧ a r (P r) ≤ hi) : n * lo ≤ ky n a P ∧ ky n a P ≤ n * hi := by
  have e1 : sm (fun _ => 1 * lo) n = n * lo := by rw [sm_mul lo (fun _ => 1), sm_one]
  have e2 : sm (fun _ => 1 * hi) n = n * hi := by rw [sm_mul hi (fun _ => 1), sm_one]
  rw [← e1, ← e2]
  refine ⟨sm_le (fun i hi2 => ?_), sm_le (fun i hi2 => ?_)⟩
  · show 1 * lo ≤ if P i = 12 then 0 else a i (P i)
    by_cases e : P i = 12
    · rw [if_pos e]; omega
    · rw [if_neg e]; have := (h i hi2 e).1; omega
  · show (if P i = 12 then 0 else a i (P i)) ≤ 1 * hi
    by_cases e : P i = 12
    · rw [if_pos e]; omega
    · rw [if_neg e]; have := (h i hi2 e).2; omega
/-- more rows with a unit: at least one rank more -/
theorem rank_more {n : Nat} {wt : Nat → Int} {P Q : Nat → Nat} (hw : ∀ r, r < n → 1 ≤ wt r) (hs : ∀ r, r < n → P r ≠ 12 → Q r ≠ 12) (hc : cn n P + 1 ≤ cn n Q) : ky n (fun r _ => wt r) P + 1 ≤ ky n (fun r _ => wt r) Q := by
  have h : sm (fun r => kyf (fun r _ => wt r) P r - cnf P r) n ≤ sm (fun r => kyf (fun r _ => wt r) Q r - cnf Q r) n := sm_le (fun r hr => by
    show (if P r = 12 then 0 else wt r) - (if P r = 12 then 0 else 1) ≤ (if Q r = 12 then 0 else wt r) - (if Q r = 12 then 0 else 1)
    have g := hw r hr
    by_cases e : P r = 12
    · rw [if_pos e, if_pos e]
      by_cases e2 : Q r = 12
      · rw [if_pos e2, if_pos e2]; omega
      · rw [if_neg e2, if_neg e2]; omega
    · rw [if_neg e, if_neg e, if_neg (hs r hr e), if_neg (hs r hr e)]; omega)
  rw [sm_sub, sm_sub] at h
  unfold ky
  unfold cn at hc
  omega
