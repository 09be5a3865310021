/-! The day's arithmetic: latest minutes in any order; bounds. -/
section SMATH
variable {N : Nat}
theorem mx_nI {a b : Nat} (ha : a < 2 ^ 31) (hb : b < 2 ^ 31) : mx (nI a) (nI b) = nI (max a b) := by
  unfold mx
  by_cases c : a < b
  · rw [if_pos (nI_lt c hb), Nat.max_eq_right (by omega)]
  · rw [if_neg (nI_nlt (by omega) ha), Nat.max_eq_left (by omega)]
theorem mx_l (x y : Int32) : x ≤ mx x y := by
  unfold mx
  by_cases c : x < y
  · rw [if_pos c]; exact Int32.le_of_lt c
  · rw [if_neg c]; exact Int32.le_refl x
theorem mx_r (x y : Int32) : y ≤ mx x y := by
  unfold mx
  by_cases c : x < y
  · rw [if_pos c]; exact Int32.le_refl y
  · rw [if_neg c]; exact Int32.not_lt.mp c
theorem mx_or (x y : Int32) : mx x y = x ∨ mx x y = y := by
  unfold mx
  by_cases c : x < y
  · rw [if_pos c]; exact Or.inr rfl
  · rw [if_neg c]; exact Or.inl rfl
theorem bgS_max {t : Nat → Int32} {ak : Nat → Nat} {a : Nat} : ∀ m, 0 ≤ bgS t ak a m ∧ (∀ j, j < m → ak j = a → t j ≤ bgS t ak a m) ∧ (bgS t ak a m = 0 ∨ ∃ j, j < m ∧ ak j = a ∧ bgS t ak a m = t j)
  | 0 => ⟨Int32.le_refl 0, fun j h => absurd h (Nat.not_lt_zero j), Or.inl rfl⟩
  | m + 1 => by
    obtain ⟨h1, h2, h3⟩ := bgS_max (t := t) (ak := ak) (a := a) m
    rw [bgS]
    by_cases c : ak m = a
    · rw [if_pos c]
      refine ⟨Int32.le_trans h1 (mx_l _ _), fun j hj ej => ?_, ?_⟩
      · by_cases e : j = m
        · rw [e]; exact mx_r _ _
        · exact Int32.le_trans (h2 j (by omega) ej) (mx_l _ _)
      · rcases mx_or (bgS t ak a m) (t m) with e | e
        · rw [e]
          exact h3.imp id (fun ⟨j, q1, q2⟩ => ⟨j, by omega, q2⟩)
        · exact Or.inr ⟨m, by omega, c, e⟩
    · rw [if_neg c]
      refine ⟨h1, fun j hj ej => ?_, h3.imp id (fun ⟨j, q1, q2⟩ => ⟨j, by omega, q2⟩)⟩
      by_cases e : j = m
      · rw [e] at ej; exact absurd ej c
      · exact h2 j (by omega) ej
/-- the last of ask a to be dressed, people by their numbers -/
def bgM (t : Nat → Int32) (asg : Nat → Option Nat) (a : Nat) : Nat → Int32
  | 0 => 0
  | q + 1 => if asg q = some a then mx (bgM t asg a q) (t q) else bgM t asg a q
theorem bgM_max {t : Nat → Int32} {asg : Nat → Option Nat} {a : Nat} : ∀ m, 0 ≤ bgM t asg a m ∧ (∀ j, j < m → asg j = some a → t j ≤ bgM t asg a m) ∧ (bgM t asg a m = 0 ∨ ∃ j, j < m ∧ asg j = some a ∧ bgM t asg a m = t j)
  | 0 => ⟨Int32.le_refl 0, fun j h => absurd h (Nat.not_lt_zero j), Or.inl rfl⟩
  | m + 1 => by
    obtain ⟨h1, h2, h3⟩ := bgM_max (t := t) (asg := asg) (a := a) m
    rw [bgM]
    by_cases c : asg m = some a
    · rw [if_pos c]
      refine ⟨Int32.le_trans h1 (mx_l _ _), fun j hj ej => ?_, ?_⟩
      · by_cases e : j = m
        · rw [e]; exact mx_r _ _
        · exact Int32.le_trans (h2 j (by omega) ej) (mx_l _ _)
      · rcases mx_or (bgM t asg a m) (t m) with e | e
        · rw [e]
          exact h3.imp id (fun ⟨j, q1, q2⟩ => ⟨j, by omega, q2⟩)
        · exact Or.inr ⟨m, by omega, c, e⟩
    · rw [if_neg c]
      refine ⟨h1, fun j hj ej => ?_, h3.imp id (fun ⟨j, q1, q2⟩ => ⟨j, by omega, q2⟩)⟩
      by_cases e : j = m
      · rw [e] at ej; exact absurd ej c
      · exact h2 j (by omega) ej
theorem bg_eq {t DR : Nat → Int32} {asg : Nat → Option Nat} {come : Nat → Int32} {ord : Nat → Nat} {a m : Nat} (hO : OrdR asg come N m ord) (hD : ∀ j, j < m → DR (ord j) = t j) : bgM DR asg a N = bgS t (fun j => akF asg (ord j)) a m := by
  obtain ⟨a1, a2, a3⟩ := bgM_max (t := DR) (asg := asg) (a := a) N
  obtain ⟨b1, b2, b3⟩ := bgS_max (t := t) (ak := fun j => akF asg (ord j)) (a := a) m
  have ak : ∀ j, j < m → (akF asg (ord j) = a ↔ asg (ord j) = some a) := by
    intro j hj
    have := (hO.2.1 j hj).2
    unfold akF
    cases c : asg (ord j) with
    | none => exact absurd c this
    | some y => simp
  refine Int32.le_antisymm ?_ ?_
  · rcases a3 with e | ⟨q, hq, eq, e⟩
    · rw [e]; exact b1
    · obtain ⟨j, hj, ej⟩ := hO.2.2 q hq (by rw [eq]; simp)
      subst ej
      rw [e, hD j hj]
      exact b2 j hj ((ak j hj).mpr eq)
  · rcases b3 with e | ⟨j, hj, ej, e⟩
    · rw [e]; exact a1
    · rw [e, ← hD j hj]
      exact a2 (ord j) (hO.2.1 j hj).1 ((ak j hj).mp ej)
theorem dfS_bd {dr : Nat} {co sl : Nat → Int32} : ∀ m, (∀ j, j < m → (∃ c, c ≤ 1500 ∧ co j = nI c) ∧ ∃ s, s ≤ 30 ∧ sl j = nI s) → m ≤ 40 → ∀ i, ∃ v, v ≤ 1500 + 30 * m ∧ dfS dr co sl m i = nI v
  | 0, _, _ => fun i => ⟨0, by omega, rfl⟩
  | m + 1, h, hm => by
    have ih := dfS_bd (dr := dr) (co := co) (sl := sl) m (fun j hj => h j (by omega)) (by omega)
    intro i
    rw [dfS_succ]
    by_cases e : i = ffl (dfS dr co sl m) dr
    · rw [if_pos e]
      obtain ⟨v, hv, ev⟩ := ih (ffl (dfS dr co sl m) dr)
      obtain ⟨⟨c, hc, ec⟩, s, hs, es⟩ := h m (by omega)
      refine ⟨max v c + s, by omega, ?_⟩
      unfold tSj tOf
      rw [ev, ec, es, mx_nI (by omega) (by omega), nI_add]
    · rw [if_neg e]
      obtain ⟨v, hv, ev⟩ := ih i
      exact ⟨v, by omega, ev⟩
theorem tSj_bd {dr : Nat} {co sl : Nat → Int32} {m : Nat} (h : ∀ j, j < m → (∃ c, c ≤ 1500 ∧ co j = nI c) ∧ ∃ s, s ≤ 30 ∧ sl j = nI s) (hm : m ≤ 40) (j : Nat) (hj : j < m) : ∃ v, v ≤ 2730 ∧ tSj dr co sl j = nI v := by
  obtain ⟨v, hv, ev⟩ := dfS_bd (dr := dr) (co := co) (sl := sl) j (fun i hi => h i (by omega)) (by omega) (ffl (dfS dr co sl j) dr)
  obtain ⟨⟨c, hc, ec⟩, s, hs, es⟩ := h j hj
  refine ⟨max v c + s, by omega, ?_⟩
  unfold tSj tOf
  rw [ev, ec, es, mx_nI (by omega) (by omega), nI_add]
theorem bgS_bd {t : Nat → Int32} {ak : Nat → Nat} {a m : Nat} (h : ∀ j, j < m → ∃ v, v ≤ 2730 ∧ t j = nI v) : ∃ v, v ≤ 2730 ∧ bgS t ak a m = nI v := by
  obtain ⟨-, -, e | ⟨j, hj, -, e⟩⟩ := bgS_max (t := t) (ak := ak) (a := a) m
  · exact ⟨0, by omega, e⟩
  · obtain ⟨v, hv, ev⟩ := h j hj
    exact ⟨v, hv, e.trans ev⟩
/-- the last one sent, from 0 on, people by their numbers -/
def laM (s : Nat → Int32) (asg : Nat → Option Nat) : Nat → Int32
  | 0 => 0
  | p + 1 => if asg p = none then laM s asg p else mx (laM s asg p) (s p)
theorem laM_eq {s u : Nat → Int32} {asg : Nat → Option Nat} : ∀ p, (∀ q, q < p → asg q ≠ none → u (cAll asg q) = s q ∧ 0 ≤ s q) → laM s asg p = if cAll asg p = 0 then 0 else lastS u (cAll asg p)
  | 0, _ => rfl
  | p + 1, h => by
    have ih := laM_eq (s := s) (u := u) (asg := asg) p (fun q hq => h q (by omega))
    rw [laM, cAll]
    by_cases c : asg p = none
    · rw [if_pos c, if_pos c, Nat.add_zero]; exact ih
    · rw [if_neg c, if_neg c, if_neg (by omega), lastS]
      obtain ⟨h1, h2⟩ := h p (by omega) c
      rw [h1, ih]
      by_cases z : cAll asg p = 0
      · rw [if_pos z, z, lastS]
        have e1 : mx (-1) (s p) = s p := if_pos (Int32.lt_of_lt_of_le (by decide) h2)
        have e2 : mx 0 (s p) = s p := by
          unfold mx
          by_cases k : 0 < s p
          · rw [if_pos k]
          · rw [if_neg k]; exact Int32.le_antisymm h2 (Int32.not_lt.mp k)
        rw [e1, e2]
      · rw [if_neg z]
theorem late_bd (seed day : Int32) (p : Nat) : ∃ v, v < 20 ∧ late seed day p = nI v := by
  unfold late
  generalize nxt (seed + 31 * nI p + 7 * day) = x
  have hs : ((Int32.toUInt32 16 &&& Int32.toUInt32 31).toBitVec % 32).toNat = 16 := by decide
  have e : ∃ u, u < 65536 ∧ (x.toUInt32 >>> ((16 : Int32).toUInt32 &&& Int32.toUInt32 31)).toInt32 = nI u := by
    refine ⟨x.toUInt32.toBitVec.toNat >>> 16, ?_, ?_⟩
    · rw [Nat.shiftRight_eq_div_pow]
      have := x.toUInt32.toBitVec.isLt
      omega
    · apply Int32.toBitVec_inj.mp
      apply BitVec.eq_of_toNat_eq
      show ((x.toUInt32 >>> ((16 : Int32).toUInt32 &&& Int32.toUInt32 31)).toBitVec).toNat = _
      rw [UInt32.toBitVec_shiftRight]
      show (x.toUInt32.toBitVec >>> ((Int32.toUInt32 16 &&& Int32.toUInt32 31).toBitVec % 32).toNat).toNat = _
      rw [hs, BitVec.toNat_ushiftRight]
      show _ = (BitVec.ofNat 32 _).toNat
      rw [BitVec.toNat_ofNat, Nat.mod_eq_of_lt]
      rw [Nat.shiftRight_eq_div_pow]
      have := x.toUInt32.toBitVec.isLt
      omega
  obtain ⟨u, hu, eu⟩ := e
  rw [eu]
  have e20 : (20 : Int32) = nI 20 := rfl
  rw [e20, pk_div (by omega) (by decide) (by decide), nI_mul, nI_subl (by omega) (by omega)]
  exact ⟨u - u / 20 * 20, by omega, rfl⟩
end SMATH
