/-! Small methods of the class. -/
section SMALL
variable {G : GG} {l : Launch} {d : Nat} {post : Option AVal → AS → Prop} {σ : AS} {kk nn : Nat}
/-- bit s of x, as Java asks for it -/
def jb (x s : Int32) : Bool := if ((x >>> (s &&& 31)) &&& 1) = 1 then true else false
theorem c_wasIn {p : Nat} {s : Int32} (h : post (some (xI (bI (jb (gI σ 6 9 p) s)))) σ) : AMet G l M_X5_wasIn d 0 0 [xR (some (6, p)), xI s] σ post := by
  refine AMet.of rfl (Nat.le_of_ble_eq_true rfl) (vc_X5_wasIn ⟨fun c => ?_, fun c => ?_⟩)
  · rw [jb, if_neg c] at h; exact h
  · rw [jb, if_pos c] at h; exact h
theorem c_canBeIn {p x : Nat} (h : post (some (xI (bI (jb (gI σ 6 10 p) (gI σ 2 0 x))))) σ) : AMet G l M_X5_canBeIn d 0 0 [xR (some (6, p)), xR (some (2, x))] σ post := by
  refine AMet.of rfl (Nat.le_of_ble_eq_true rfl) (vc_X5_canBeIn ⟨fun c => ?_, fun c => ?_⟩)
  · rw [jb, if_neg c] at h; exact h
  · rw [jb, if_pos c] at h; exact h
def bZ (x : Int32) : Int32 := if x = 0 then 0 else 1
def ansP (f : Nat → Int32) (a : Int32) : Int32 := if a = 0 then f 1 else if a = 1 then f 2 else if a = 2 then f 3 else if a = 3 then f 4 else if a = 4 then f 5 else if a = 5 then bZ (f 6) else if a = 6 then f 7 else if a = 7 then f 8 else -1
theorem c_ansP {p : Nat} {a : Int32} (h : post (some (xI (ansP (fun f => gI σ 6 f p) a))) σ) : AMet G l M_X5_answer d 0 0 [xR (some (6, p)), xI a] σ post := by
  refine AMet.of rfl (Nat.le_of_ble_eq_true rfl) (vc_X5_answer ⟨fun c => ?_, fun c => ?_, fun c => ?_, fun c => ?_, fun c => ?_, fun c => ⟨fun z => ?_, fun z => ?_⟩, fun c => ?_, fun c => ?_, fun c => ?_⟩)
  · subst c; exact h
  · subst c; exact h
  · subst c; exact h
  · subst c; exact h
  · subst c; exact h
  · subst c
    have e : ansP (fun f => gI σ 6 f p) 5 = bZ (gI σ 6 6 p) := rfl
    rw [e, bZ, if_pos z] at h; exact h
  · subst c
    have e : ansP (fun f => gI σ 6 f p) 5 = bZ (gI σ 6 6 p) := rfl
    rw [e, bZ, if_neg z] at h; exact h
  · subst c; exact h
  · subst c; exact h
  · have n : ∀ k : Int32, (0 ≤ k.toInt ∧ k.toInt ≤ 7) → ¬ a = k := fun k hk e => by subst e; omega
    rw [ansP, if_neg (n 0 (by decide)), if_neg (n 1 (by decide)), if_neg (n 2 (by decide)), if_neg (n 3 (by decide)), if_neg (n 4 (by decide)), if_neg (n 5 (by decide)), if_neg (n 6 (by decide)), if_neg (n 7 (by decide))] at h
    exact h
def ansA (f : Nat → Int32) (a : Int32) : Int32 := if a = 0 then f 1 else if a = 1 then f 2 else if a = 2 then f 3 else if a = 3 then f 4 else if a = 4 then f 6 else -1
theorem c_ansA {x : Nat} {a : Int32} (h : post (some (xI (ansA (fun f => gI σ 2 f x) a))) σ) : AMet G l M_X1_answer d 0 0 [xR (some (2, x)), xI a] σ post := by
  refine AMet.of rfl (Nat.le_of_ble_eq_true rfl) (vc_X1_answer ⟨fun c => ?_, fun c => ?_, fun c => ?_, fun c => ?_, fun c => ?_, fun c => ?_⟩)
  · subst c; exact h
  · subst c; exact h
  · subst c; exact h
  · subst c; exact h
  · subst c; exact h
  · have n : ∀ k : Int32, (0 ≤ k.toInt ∧ k.toInt ≤ 4) → ¬ a = k := fun k hk e => by subst e; omega
    rw [ansA, if_neg (n 0 (by decide)), if_neg (n 1 (by decide)), if_neg (n 2 (by decide)), if_neg (n 3 (by decide)), if_neg (n 4 (by decide))] at h
    exact h
/-- whether a mark of kind k and number v holds of one with the fields f -/
def hB (f : Nat → Int32) (k v : Int32) : Bool := if k = 1 then jb (f 3) v else if k = 2 then decide (f 4 = v) else if k = 3 then jb (f 9) v else if k = 4 then decide (f 1 < v) else if k = 5 then decide (v < f 1) else if k = 6 then decide (f 2 < v) else if k = 7 then decide (v < f 2) else true
theorem bI_dec {p : Prop} [Decidable p] : bI (decide p) = if p then 1 else 0 := by
  by_cases h : p
  · rw [if_pos h, decide_eq_true h]; rfl
  · rw [if_neg h, decide_eq_false h]; rfl
theorem c_holds {p : Nat} {k v : Int32} (h : post (some (xI (bI (hB (fun f => gI σ 6 f p) k v)))) σ) : AMet G l M_X1_holds (d + 1) 0 0 [xI k, xI v, xR (some (6, p))] σ post := by
  have e1 : hB (fun f => gI σ 6 f p) 1 v = jb (gI σ 6 3 p) v := rfl
  have e2 : hB (fun f => gI σ 6 f p) 2 v = decide (gI σ 6 4 p = v) := rfl
  have e4 : hB (fun f => gI σ 6 f p) 4 v = decide (gI σ 6 1 p < v) := rfl
  have e5 : hB (fun f => gI σ 6 f p) 5 v = decide (v < gI σ 6 1 p) := rfl
  have e6 : hB (fun f => gI σ 6 f p) 6 v = decide (gI σ 6 2 p < v) := rfl
  have e7 : hB (fun f => gI σ 6 f p) 7 v = decide (v < gI σ 6 2 p) := rfl
  refine AMet.of rfl (Nat.le_of_ble_eq_true rfl) (vc_X1_holds ⟨fun c => ⟨fun z => ?_, fun z => ?_⟩, fun c => ⟨fun z => ?_, fun z => ?_⟩, fun c => c_wasIn ⟨?_, ?_⟩, fun c => ⟨fun z => ?_, fun z => ?_⟩, fun c => ⟨fun z => ?_, fun z => ?_⟩, fun c => ⟨fun z => ?_, fun z => ?_⟩, fun c => ⟨fun z => ?_, fun z => ?_⟩, fun c => ?_⟩)
  · subst c; rw [e1, jb, if_neg z] at h; exact h
  · subst c; rw [e1, jb, if_pos z] at h; exact h
  · subst c; rw [e2, bI_dec, if_neg z] at h; exact h
  · subst c; rw [e2, bI_dec, if_pos z] at h; exact h
  · cases jb (gI σ 6 9 p) v <;> decide
  · subst c; exact h
  · subst c; rw [e4, bI_dec, if_neg (Int32.not_lt.mpr z)] at h; exact h
  · subst c; rw [e4, bI_dec, if_pos (Int32.not_le.mp z)] at h; exact h
  · subst c; rw [e5, bI_dec, if_neg (Int32.not_lt.mpr z)] at h; exact h
  · subst c; rw [e5, bI_dec, if_pos (Int32.not_le.mp z)] at h; exact h
  · subst c; rw [e6, bI_dec, if_neg (Int32.not_lt.mpr z)] at h; exact h
  · subst c; rw [e6, bI_dec, if_pos (Int32.not_le.mp z)] at h; exact h
  · subst c; rw [e7, bI_dec, if_neg (Int32.not_lt.mpr z)] at h; exact h
  · subst c; rw [e7, bI_dec, if_pos (Int32.not_le.mp z)] at h; exact h
  · have n : ∀ j : Int32, (1 ≤ j.toInt ∧ j.toInt ≤ 7) → ¬ k = j := fun j hk e => by subst e; omega
    have e : hB (fun f => gI σ 6 f p) k v = true := by
      rw [hB, if_neg (n 1 (by decide)), if_neg (n 2 (by decide)), if_neg (n 3 (by decide)), if_neg (n 4 (by decide)), if_neg (n 5 (by decide)), if_neg (n 6 (by decide)), if_neg (n 7 (by decide))]
    rw [e] at h
    exact h
/-- quarters of an hour -/
def qtr (m : Int32) (up : Bool) : Int32 := if 0 < m then (if up = true then (m + 14) / 15 else m / 15) else 0
theorem c_quarters {x : Nat} {m : Int32} (h : post (some (xI (qtr m (!decide (gI σ 9 3 x = 0))))) σ) : AMet G l M_X8_quarters d 0 0 [xR (some (9, x)), xI m] σ post := by
  refine AMet.of rfl (Nat.le_of_ble_eq_true rfl) (vc_X8_quarters ⟨fun c => ⟨fun z => ?_, fun z => ?_⟩, fun c => ?_⟩)
  · rw [qtr, if_pos c, decide_eq_true z, if_neg (by decide)] at h; exact h
  · rw [qtr, if_pos c, decide_eq_false z, if_pos (by decide)] at h
    rw [show m + 15 - 1 = m + 14 by rw [Int32.sub_eq_add_neg, Int32.add_assoc]; rfl]
    exact h
  · rw [qtr, if_neg c] at h; exact h
/-- the worth of a term of kind k, minute m, number n -/
def tW (k m n : Int32) (up : Bool) (co se : Int32) : Int32 := if k = 0 then n else if k = 1 then qtr (se - co - m) up * n else if k = 2 then qtr (m - co) up * n else if k = 3 then qtr (se - m) up * n else 0
theorem c_tworth {x : Nat} {co se : Int32} (h : post (some (xI (tW (gI σ 9 0 x) (gI σ 9 1 x) (gI σ 9 2 x) (!decide (gI σ 9 3 x = 0)) co se))) σ) : AMet G l M_X8_worth (d + 1) 0 0 [xR (some (9, x)), xI co, xI se] σ post := by
  refine AMet.of rfl (Nat.le_of_ble_eq_true rfl) (vc_X8_worth ⟨fun c => ?_, fun c => c_quarters ?_, fun c => c_quarters ?_, fun c => c_quarters ?_, fun c => ?_⟩)
  · rw [c] at h; exact h
  · rw [c] at h; exact h
  · rw [c] at h; exact h
  · rw [c] at h; exact h
  · have n : ∀ j : Int32, (0 ≤ j.toInt ∧ j.toInt ≤ 3) → ¬ gI σ 9 0 x = j := fun j hk e => by rw [e] at c; omega
    rw [tW, if_neg (n 0 (by decide)), if_neg (n 1 (by decide)), if_neg (n 2 (by decide)), if_neg (n 3 (by decide))] at h
    exact h
def tWx (σ : AS) (x : Nat) (co se : Int32) : Int32 := tW (gI σ 9 0 x) (gI σ 9 1 x) (gI σ 9 2 x) (!decide (gI σ 9 3 x = 0)) co se
def sumT (σ : AS) (t : Nat → Nat) (co se : Int32) : Nat → Int32
  | 0 => 0
  | k + 1 => sumT σ t co se k + tWx σ (t k) co se
theorem c_worth {x q n : Nat} {t : Nat → Nat} {co se : Int32} (hx : gR σ 1 1 x = some (0, q)) (hA : AL σ q n (fun j => (9, t j))) (h : post (some (xI (sumT σ t co se n))) σ) : AMet G l M_X0_worth (d + 4) 0 0 [xR (some (1, x)), xI co, xI se] σ post := by
  have hn := hA.n_lt
  have loop : ∀ (f k : Nat), n - k = f → k ≤ n → AW G l M_X0_worth (d + 4) post σ 0 0 5 [some (xR (some (1, x))), some (xI co), some (xI se), some (xI (sumT σ t co se k)), some (xI (nI k))] [] := by
    intro f
    induction f with
    | zero =>
      intro k hf hk
      refine vc_X0_worth_5 (d := d + 3) ⟨q, hx, c_size hA ⟨fun _ => ?_, fun c => absurd (nI_le (show n ≤ k by omega) (by omega)) c⟩⟩
      rw [show k = n by omega]; exact h
    | succ f ih =>
      intro k hf hk
      refine vc_X0_worth_5 (d := d + 3) ⟨q, hx, c_size hA ⟨fun c => absurd ((nI_leI (by omega) (by omega)).mp c) (by omega), fun _ => ⟨q, hx, c_get hA (show k < n by omega) ⟨t k, rfl, c_tworth ?_⟩⟩⟩⟩
      rw [nI_1]
      exact ih (k + 1) (by omega) (by omega)
  refine AMet.of rfl (Nat.le_of_ble_eq_true rfl) (vc_X0_worth (d := d + 3) ?_)
  have k := loop n 0 rfl (Nat.zero_le _)
  rw [nI_0] at k
  exact k
/-- what a record is worth: its agreement x's list q -/
theorem c_earned0 {r : Nat} (h8 : gR σ 11 8 r = none) (h : post (some (xI 0)) σ) : AMet G l M_X10_earned (d + 5) 0 0 [xR (some (11, r))] σ post :=
  AMet.of rfl (Nat.le_of_ble_eq_true rfl) (vc_X10_earned (d := d + 4) ⟨fun _ => h, fun n c => by rw [h8] at c; cases c⟩)
theorem c_earned1 {r x q n : Nat} {t : Nat → Nat} (h8 : gR σ 11 8 r = some (1, x)) (hx : gR σ 1 1 x = some (0, q)) (hA : AL σ q n (fun j => (9, t j))) (h : post (some (xI (sumT σ t (gI σ 11 4 r) (gI σ 11 7 r) n))) σ) : AMet G l M_X10_earned (d + 5) 0 0 [xR (some (11, r))] σ post :=
  AMet.of rfl (Nat.le_of_ble_eq_true rfl) (vc_X10_earned (d := d + 4) ⟨fun c => (by rw [h8] at c; cases c), fun n c => ⟨x, (by rw [h8] at c; cases c; rfl), x, h8, c_worth hx hA h⟩⟩)
theorem c_moveNone {p : Nat} (h0 : gR σ 6 11 p = none → post none (sR σ 6 11 p none)) (h1 : ∀ x, gR σ 6 11 p = some (2, x) → post none (sR (sI σ 2 6 x (gI σ 2 6 x - 1)) 6 11 p none)) (ht : ∀ n, gR σ 6 11 p = some n → ∃ x, n = (2, x)) : AMet G l M_X5_moveTo d 0 0 [xR (some (6, p)), xR none] σ post := by
  refine AMet.of rfl (Nat.le_of_ble_eq_true rfl) (vc_X5_moveTo ⟨fun c => ⟨fun _ => h0 c, fun n q => by cases q⟩, fun n c => ?_⟩)
  obtain ⟨x, rfl⟩ := ht n c
  exact ⟨x, rfl, x, c, fun _ => h1 x c, fun n q => by cases q⟩
theorem c_moveTo {p y : Nat} (h0 : gR σ 6 11 p = none → post none (sI (sR σ 6 11 p (some (2, y))) 2 6 y (gI σ 2 6 y + 1))) (h1 : ∀ x, gR σ 6 11 p = some (2, x) → post none (sI (sR (sI σ 2 6 x (gI σ 2 6 x - 1)) 6 11 p (some (2, y))) 2 6 y (gI (sI σ 2 6 x (gI σ 2 6 x - 1)) 2 6 y + 1))) (ht : ∀ n, gR σ 6 11 p = some n → ∃ x, n = (2, x)) : AMet G l M_X5_moveTo d 0 0 [xR (some (6, p)), xR (some (2, y))] σ post := by
  refine AMet.of rfl (Nat.le_of_ble_eq_true rfl) (vc_X5_moveTo ⟨fun c => ⟨fun q => (by cases q), fun n q => (by cases q; exact ⟨y, rfl, h0 c⟩)⟩, fun n c => ?_⟩)
  obtain ⟨x, rfl⟩ := ht n c
  exact ⟨x, rfl, x, c, fun q => (by cases q), fun n q => (by cases q; exact ⟨y, rfl, h1 x c⟩)⟩
theorem c_find {N : Nat} {e : Nat → Nm} (hS : St σ) (hA : AL σ 0 N e) (he : ∀ p, p < N → e p = (6, p)) {x : Int32} (h0 : (∀ p, p < N → ¬ x = nI p) → post (some (xR none)) σ) (h1 : ∀ p, p < N → x = nI p → post (some (xR (some (6, p)))) σ) : AMet G l M_X11_find (d + 4) 0 0 [xR (some (12, 0)), xI x] σ post := by
  have hn := hA.n_lt
  refine AMet.of rfl (Nat.le_of_ble_eq_true rfl) (vc_X11_find (d := d + 3) hS ⟨fun c => h0 (fun p hp q => ?_), fun c => ?_⟩)
  · rw [q] at c
    exact absurd c (nI_pos (by omega))
  · obtain ⟨j, hj, rfl⟩ := nI_of c
    refine c_size hA ⟨hS, fun c2 => h0 (fun p hp q => ?_), fun c2 => ?_⟩
    · have := (nI_leI (by omega) hj).mp c2
      have := (nI_eq hj (by omega)).mp q
      omega
    · have hjN : j < N := Nat.lt_of_not_le fun q => c2 (nI_le q hj)
      refine c_get hA hjN ⟨j, by rw [he j hjN], ?_⟩
      exact h1 j hjN rfl
theorem c_findA {q K : Nat} {e : Nat → Nm} {a0 : Nat} (hq : gR σ 7 0 0 = some (0, q)) (hA : AL σ q K e) (he : ∀ a, a < K → e a = (2, a0 + a)) {x : Int32} (h0 : (∀ a, a < K → ¬ x = nI a) → post (some (xR none)) σ) (h1 : ∀ a, a < K → x = nI a → post (some (xR (some (2, a0 + a)))) σ) : AMet G l M_X6_find (d + 4) 0 0 [xR (some (7, 0)), xI x] σ post := by
  have hn := hA.n_lt
  refine AMet.of rfl (Nat.le_of_ble_eq_true rfl) (vc_X6_find (d := d + 3) ⟨fun c => h0 (fun p hp q => ?_), fun c => ?_⟩)
  · rw [q] at c
    exact absurd c (nI_pos (by omega))
  · obtain ⟨j, hj, rfl⟩ := nI_of c
    refine ⟨q, hq, c_size hA ⟨fun c2 => h0 (fun p hp q => ?_), fun c2 => ?_⟩⟩
    · have := (nI_leI (by omega) hj).mp c2
      have := (nI_eq hj (by omega)).mp q
      omega
    · have hjN : j < K := Nat.lt_of_not_le fun q => c2 (nI_le q hj)
      exact ⟨q, hq, c_get hA hjN ⟨a0 + j, by rw [he j hjN], h1 j hjN rfl⟩⟩
theorem c_isScene {x : Int32} (h0 : x < 0 ∨ 19 < x → post (some (xI 0)) σ) (h1 : ¬ x < 0 → ¬ 19 < x → post (some (xI 1)) σ) : AMet G l M_X11_isScene (d + 1) 0 0 [xI x] σ post :=
  AMet.of rfl (Nat.le_of_ble_eq_true rfl) (vc_X11_isScene (d := d) (c_within (fun c => ⟨by decide, h0 c⟩) (fun c c2 => ⟨by decide, h1 c c2⟩)))
end SMALL
