/-! The plan: who is called where; moving people; who is open to what. -/
section PLAN
variable {G : GG} {l : Launch} {d : Nat} {post : Option AVal → AS → Prop} {σ : AS} {kk nn : Nat}
/-- bit i of an int -/
def ib (x : Int32) (i : Nat) : Bool := x.toBitVec.getLsbD i
theorem ib_or (x y : Int32) (i : Nat) : ib (x ||| y) i = (ib x i || ib y i) := by unfold ib; rw [Int32.toBitVec_or, BitVec.getLsbD_or]
theorem ib_sl : ∀ n, n < 32 → ((nI n &&& 31).toBitVec.smod 32).toNat = n := by decide +kernel
theorem ib_1s : ∀ a, a < 32 → ∀ i, i < 32 → ib ((1 : Int32) <<< (nI a &&& 31)) i = decide (i = a) := by decide +kernel
theorem ib_0 : ∀ i, i < 32 → ib 0 i = false := by decide +kernel
theorem ib_1 : ∀ i, i < 32 → ib 1 i = decide (i = 0) := by decide +kernel
theorem ib_top (y : Int32) : ((y &&& 1) = 1) ↔ ib y 0 = true := by
  constructor
  · intro h
    have : ib (y &&& 1) 0 = ib 1 0 := by rw [h]
    unfold ib at this ⊢
    rw [Int32.toBitVec_and, BitVec.getLsbD_and] at this
    have e : (1 : Int32).toBitVec.getLsbD 0 = true := by decide
    rw [e, Bool.and_true] at this
    exact this
  · intro h
    apply Int32.toBitVec_inj.mp
    apply BitVec.eq_of_getLsbD_eq
    intro i hi
    rw [Int32.toBitVec_and, BitVec.getLsbD_and]
    have e := ib_1 i hi
    unfold ib at e h
    rw [e]
    by_cases q : i = 0
    · subst q; rw [h]; rfl
    · rw [decide_eq_false q, Bool.and_false]
theorem jb_ib (x : Int32) {i : Nat} (hi : i < 32) : jb x (nI i) = ib x i := by
  have e : ib (x >>> (nI i &&& 31)) 0 = ib x i := by
    unfold ib
    rw [Int32.toBitVec_shiftRight]
    show (x.toBitVec.sshiftRight ((nI i &&& 31).toBitVec.smod 32).toNat).getLsbD 0 = _
    rw [ib_sl i hi, BitVec.getLsbD_sshiftRight]
    simp [hi]
  unfold jb
  by_cases h : ((x >>> (nI i &&& 31)) &&& 1) = 1
  · rw [if_pos h, ← e, (ib_top _).mp h]
  · rw [if_neg h, ← e]
    cases q : ib (x >>> (nI i &&& 31)) 0
    · rfl
    · exact absurd ((ib_top _).mpr q) h
theorem jb_set (x : Int32) {a i : Nat} (ha : a < 32) (hi : i < 32) : jb (x ||| ((1 : Int32) <<< (nI a &&& 31))) (nI i) = (jb x (nI i) || decide (i = a)) := by
  rw [jb_ib _ hi, jb_ib _ hi, ib_or, ib_1s a ha i hi]
theorem jb_0 {i : Nat} (hi : i < 32) : jb 0 (nI i) = false := by rw [jb_ib _ hi, ib_0 i hi]
/-- how many are in ask a -/
def cA (asg : Nat → Option Nat) (a : Nat) : Nat → Nat
  | 0 => 0
  | n + 1 => cA asg a n + (if asg n = some a then 1 else 0)
def updO (asg : Nat → Option Nat) (p : Nat) (v : Option Nat) : Nat → Option Nat := fun x => if x = p then v else asg x
theorem cA_congr {asg asg' : Nat → Option Nat} {a : Nat} : ∀ n, (∀ p, p < n → (asg p = some a ↔ asg' p = some a)) → cA asg a n = cA asg' a n
  | 0, _ => rfl
  | n + 1, h => by
    rw [cA, cA, cA_congr n (fun p hp => h p (by omega))]
    by_cases c : asg n = some a
    · rw [if_pos c, if_pos ((h n (by omega)).mp c)]
    · rw [if_neg c, if_neg (fun q => c ((h n (by omega)).mpr q))]
theorem cA_le {asg : Nat → Option Nat} {a : Nat} : ∀ n, cA asg a n ≤ n
  | 0 => Nat.le_refl _
  | n + 1 => by
    have := cA_le (asg := asg) (a := a) n
    rw [cA]; split <;> omega
theorem cA_upd {asg : Nat → Option Nat} {a p : Nat} {v : Option Nat} : ∀ n, p < n → cA (updO asg p v) a n + (if asg p = some a then 1 else 0) = cA asg a n + (if v = some a then 1 else 0)
  | 0, h => absurd h (Nat.not_lt_zero p)
  | n + 1, h => by
    rw [cA, cA]
    by_cases e : p = n
    · subst e
      have h1 : cA (updO asg p v) a p = cA asg a p := cA_congr p (fun x hx => by unfold updO; rw [if_neg (by omega)])
      have h2 : updO asg p v p = v := if_pos rfl
      rw [h1, h2]; omega
    · have ih := cA_upd (asg := asg) (a := a) (p := p) (v := v) n (by omega)
      have h2 : updO asg p v n = asg n := if_neg (fun q => e q.symm)
      rw [h2]; omega
theorem cA_pos {asg : Nat → Option Nat} {a p : Nat} : ∀ n, p < n → asg p = some a → 1 ≤ cA asg a n
  | 0, h, _ => absurd h (Nat.not_lt_zero p)
  | n + 1, h, e => by
    rw [cA]
    by_cases q : p = n
    · subst q; rw [if_pos e]; omega
    · have := cA_pos n (by omega) e
      omega
/-- the picture: N people, list q of K asks from object a0 on -/
def PicS (N q K a0 : Nat) (σ : AS) : Prop := St σ ∧ AL σ 0 N (fun p => (6, p)) ∧ N ≤ 40 ∧ cnt σ 6 = N ∧ (∀ p, p < N → gI σ 6 0 p = nI p) ∧ gR σ 7 0 0 = some (0, q) ∧ AL σ q K (fun a => (2, a0 + a)) ∧ K ≤ 6 ∧ a0 + K ≤ cnt σ 2 ∧ ∀ a, a < K → gI σ 2 0 (a0 + a) = nI a
def Seat (N K a0 : Nat) (σ : AS) (asg : Nat → Option Nat) : Prop := (∀ p, p < N → gR σ 6 11 p = (asg p).map (fun a => (2, a0 + a))) ∧ (∀ p, p < N → ∀ a, asg p = some a → a < K) ∧ ∀ a, a < K → gI σ 2 6 (a0 + a) = nI (cA asg a N)
/-- what seating leaves alone -/
def SF (σ σ' : AS) : Prop := sameK (fun c => c ≠ 2 ∧ c ≠ 6 ∧ c ≠ 7) σ σ' ∧ (∀ c, cnt σ' c = cnt σ c) ∧ (∀ c i, gN σ' c i = gN σ c i) ∧ (∀ f i, f ≠ 6 → gI σ' 2 f i = gI σ 2 f i) ∧ (∀ f i, gR σ' 2 f i = gR σ 2 f i) ∧ (∀ f i, gI σ' 6 f i = gI σ 6 f i) ∧ (∀ f i, f ≠ 11 → gR σ' 6 f i = gR σ 6 f i) ∧ (∀ f i, f ≠ 3 → gI σ' 7 f i = gI σ 7 f i) ∧ (∀ f i, gR σ' 7 f i = gR σ 7 f i)
theorem SF.rf : SF σ σ := ⟨sameK.rf, fun _ => rfl, fun _ _ => rfl, fun _ _ _ => rfl, fun _ _ => rfl, fun _ _ => rfl, fun _ _ _ => rfl, fun _ _ _ => rfl, fun _ _ => rfl⟩
theorem SF.tr {σ1 σ2 : AS} (h : SF σ σ1) (k : SF σ1 σ2) : SF σ σ2 := ⟨h.1.tr k.1, fun c => (k.2.1 c).trans (h.2.1 c), fun c i => (k.2.2.1 c i).trans (h.2.2.1 c i), fun f i z => (k.2.2.2.1 f i z).trans (h.2.2.2.1 f i z), fun f i => (k.2.2.2.2.1 f i).trans (h.2.2.2.2.1 f i), fun f i => (k.2.2.2.2.2.1 f i).trans (h.2.2.2.2.2.1 f i), fun f i z => (k.2.2.2.2.2.2.1 f i z).trans (h.2.2.2.2.2.2.1 f i z), fun f i z => (k.2.2.2.2.2.2.2.1 f i z).trans (h.2.2.2.2.2.2.2.1 f i z), fun f i => (k.2.2.2.2.2.2.2.2 f i).trans (h.2.2.2.2.2.2.2.2 f i)⟩
theorem SF.st {σ' : AS} (h : SF σ σ') (hS : St σ) : St σ' := hS.of fun c hc => ⟨fun f i _ => by
  by_cases h7 : c = 7
  · subst h7; exact h.2.2.2.2.2.2.2.2 f i
  · exact (h.1 c ⟨fun e => (by subst e; revert hc; unfold stKind; decide), fun e => (by subst e; revert hc; unfold stKind; decide), h7⟩).2.2.1 f i, fun i _ => h.2.2.1 c i, Nat.le_of_eq (h.2.1 c).symm⟩
theorem SF.al {σ' : AS} {q n : Nat} {e : Nat → Nm} (h : SF σ σ') (k : AL σ q n e) : AL σ' q n e := k.same (h.1.sub (fun c hc => by rcases hc with rfl | rfl <;> decide))
theorem SF.pic {σ' : AS} {N q K a0 : Nat} (h : SF σ σ') (k : PicS N q K a0 σ) : PicS N q K a0 σ' := by
  obtain ⟨k1, k2, k3, k4, k5, k6, k7, k8, k9, k10⟩ := k
  exact ⟨h.st k1, h.al k2, k3, (h.2.1 6).trans k4, fun p hp => (h.2.2.2.2.2.1 0 p).trans (k5 p hp), (h.2.2.2.2.2.2.2.2 0 0).trans k6, h.al k7, k8, by rw [h.2.1]; exact k9, fun a ha => (h.2.2.2.1 0 _ (by decide)).trans (k10 a ha)⟩
theorem SF.setR {p : Nat} {v : Option Nm} : SF σ (sR σ 6 11 p v) := ⟨fun c hc => eqK_sR hc.2.1, fun _ => rfl, fun _ _ => rfl, fun _ _ _ => rfl, fun f i => by rw [gR_sR, if_neg (fun e => absurd e.1 (by decide))], fun _ _ => rfl, fun f i z => by rw [gR_sR, if_neg (fun e => z e.2.1)], fun _ _ _ => rfl, fun f i => by rw [gR_sR, if_neg (fun e => absurd e.1 (by decide))]⟩
theorem SF.setH {x : Nat} {v : Int32} : SF σ (sI σ 2 6 x v) := ⟨fun c hc => eqK_sI hc.1, fun _ => rfl, fun _ _ => rfl, fun f i z => by rw [gI_sI, if_neg (fun e => z e.2.1)], fun _ _ => rfl, fun f i => by rw [gI_sI, if_neg (fun e => absurd e.1 (by decide))], fun _ _ _ => rfl, fun f i _ => by rw [gI_sI, if_neg (fun e => absurd e.1 (by decide))], fun _ _ => rfl⟩
theorem SF.setT {v : Int32} : SF σ (sI σ 7 3 0 v) := ⟨fun c hc => eqK_sI hc.2.2, fun _ => rfl, fun _ _ => rfl, fun f i _ => by rw [gI_sI, if_neg (fun e => absurd e.1 (by decide))], fun _ _ => rfl, fun f i => by rw [gI_sI, if_neg (fun e => absurd e.1 (by decide))], fun _ _ _ => rfl, fun f i z => by rw [gI_sI, if_neg (fun e => z e.2.1)], fun _ _ => rfl⟩
theorem map_ne {a0 x y : Nat} : ((some x : Option Nat).map (fun a => ((2 : Nat), a0 + a)) = (some y).map (fun a => (2, a0 + a))) ↔ x = y := by
  show (some ((2 : Nat), a0 + x) = some (2, a0 + y)) ↔ x = y
  constructor
  · intro h
    have h1 := congrArg (fun o => match o with | some (n : Nm) => n.2 | none => 0) h
    have h2 : a0 + x = a0 + y := h1
    omega
  · intro h; rw [h]
theorem seat_upd {N K a0 p : Nat} {asg : Nat → Option Nat} {v : Option Nat} {σ' : AS} (hA : Seat N K a0 σ asg) (hN : N ≤ 40) (hp : p < N) (hv : ∀ a, v = some a → a < K)
    (h1 : ∀ i, gR σ' 6 11 i = if i = p then v.map (fun a => (2, a0 + a)) else gR σ 6 11 i) (h2 : ∀ a, a < K → gI σ' 2 6 (a0 + a) = gI σ 2 6 (a0 + a) - (if asg p = some a then 1 else 0) + (if v = some a then 1 else 0)) : Seat N K a0 σ' (updO asg p v) := by
  refine ⟨fun i hi => ?_, fun i hi a e => ?_, fun a ha => ?_⟩
  · rw [h1]
    unfold updO
    by_cases c : i = p
    · rw [if_pos c, if_pos c]
    · rw [if_neg c, if_neg c]; exact hA.1 i hi
  · unfold updO at e
    by_cases c : i = p
    · rw [if_pos c] at e; exact hv a e
    · rw [if_neg c] at e; exact hA.2.1 i hi a e
  · rw [h2 a ha, hA.2.2 a ha]
    have k := cA_upd (asg := asg) (a := a) (p := p) (v := v) N hp
    by_cases c : asg p = some a
    · rw [if_pos c] at k ⊢
      obtain ⟨m, hm⟩ : ∃ m, cA asg a N = m + 1 := ⟨cA asg a N - 1, by have := cA_pos N hp c; omega⟩
      rw [hm, nI_pred]
      by_cases c2 : v = some a
      · rw [if_pos c2] at k ⊢
        rw [nI_1]; congr 1; omega
      · rw [if_neg c2] at k ⊢
        rw [Int32.add_zero]; congr 1; omega
    · rw [if_neg c] at k ⊢
      rw [Int32.sub_zero]
      by_cases c2 : v = some a
      · rw [if_pos c2] at k ⊢
        rw [nI_1]; congr 1; omega
      · rw [if_neg c2] at k ⊢
        rw [Int32.add_zero]; congr 1; omega
theorem c_move {N q K a0 p : Nat} {asg : Nat → Option Nat} (v : Option Nat) (hP : PicS N q K a0 σ) (hA : Seat N K a0 σ asg) (hp : p < N) (hv : ∀ a, v = some a → a < K)
    (h : ∀ σ', SF σ σ' → gI σ' 7 3 0 = gI σ 7 3 0 → Seat N K a0 σ' (updO asg p v) → post none σ') : AMet G l M_X5_moveTo d 0 0 [xR (some (6, p)), xR (v.map (fun a => (2, a0 + a)))] σ post := by
  have ht : ∀ n, gR σ 6 11 p = some n → ∃ x, n = (2, x) := fun n e => by
    rw [hA.1 p hp] at e
    cases c : asg p with
    | none => rw [c] at e; cases e
    | some a => rw [c] at e; cases e; exact ⟨a0 + a, rfl⟩
  have hasg : ∀ x, gR σ 6 11 p = some (2, x) → ∃ a, asg p = some a ∧ x = a0 + a := fun x e => by
    rw [hA.1 p hp] at e
    cases c : asg p with
    | none => rw [c] at e; cases e
    | some a => rw [c] at e; cases e; exact ⟨a, rfl, rfl⟩
  have hnone : gR σ 6 11 p = none → asg p = none := fun e => by
    rw [hA.1 p hp] at e
    cases c : asg p with
    | none => rfl
    | some a => rw [c] at e; cases e
  cases v with
  | none =>
    refine c_moveNone (fun e => ?_) (fun x e => ?_) ht
    · refine h _ SF.setR rfl (seat_upd hA hP.2.2.1 hp hv (fun i => ?_) (fun a ha => ?_))
      · rw [gR_sR]
        by_cases c : i = p
        · rw [if_pos ⟨rfl, rfl, c⟩, if_pos c]; rfl
        · rw [if_neg (fun z => c z.2.2), if_neg c]
      · rw [hnone e, if_neg (by simp), Int32.sub_zero, Int32.add_zero]; rfl
    · obtain ⟨b, eb, rfl⟩ := hasg x e
      refine h _ (SF.setH.tr SF.setR) (by rw [gI_sR, gI_o (fun z => absurd z.1 (by decide))]) (seat_upd hA hP.2.2.1 hp hv (fun i => ?_) (fun a ha => ?_))
      · rw [gR_sR]
        by_cases c : i = p
        · rw [if_pos ⟨rfl, rfl, c⟩, if_pos c]; rfl
        · rw [if_neg (fun z => c z.2.2), if_neg c]; rfl
      · rw [eb, if_neg (c := (none : Option Nat) = some a) (by simp), Int32.add_zero, gI_sR, gI_sI]
        by_cases c : a = b
        · rw [if_pos ⟨rfl, rfl, by rw [c]⟩, if_pos (by rw [c]), c]
        · rw [if_neg (fun z => c (by omega)), if_neg (by simpa using fun z => c z.symm), Int32.sub_zero]
  | some y =>
    show AMet G l M_X5_moveTo d 0 0 [xR (some (6, p)), xR (some (2, a0 + y))] σ post
    refine c_moveTo (fun e => ?_) (fun x e => ?_) ht
    · refine h _ (SF.setR.tr SF.setH) (by rw [gI_o (fun z => absurd z.1 (by decide)), gI_sR]) (seat_upd hA hP.2.2.1 hp hv (fun i => ?_) (fun a ha => ?_))
      · rw [gR_sI, gR_sR]
        by_cases c : i = p
        · rw [if_pos ⟨rfl, rfl, c⟩, if_pos c]; rfl
        · rw [if_neg (fun z => c z.2.2), if_neg c]
      · rw [hnone e, if_neg (c := (none : Option Nat) = some a) (by simp), Int32.sub_zero, gI_sI]
        by_cases c : a = y
        · rw [if_pos ⟨rfl, rfl, by rw [c]⟩, if_pos (by rw [c]), c]
        · rw [if_neg (fun z => c (by omega)), if_neg (by simpa using fun z => c z.symm), Int32.add_zero]; rfl
    · obtain ⟨b, eb, rfl⟩ := hasg x e
      refine h _ ((SF.setH.tr SF.setR).tr SF.setH) (by rw [gI_o (fun z => absurd z.1 (by decide)), gI_sR, gI_o (fun z => absurd z.1 (by decide))]) (seat_upd hA hP.2.2.1 hp hv (fun i => ?_) (fun a ha => ?_))
      · rw [gR_sI, gR_sR]
        by_cases c : i = p
        · rw [if_pos ⟨rfl, rfl, c⟩, if_pos c]; rfl
        · rw [if_neg (fun z => c z.2.2), if_neg c]; rfl
      · have inner : ∀ a, gI (sI σ 2 6 (a0 + b) (gI σ 2 6 (a0 + b) - 1)) 2 6 (a0 + a) = gI σ 2 6 (a0 + a) - (if (some b : Option Nat) = some a then 1 else 0) := fun a => by
          rw [gI_sI]
          by_cases c : a = b
          · rw [if_pos ⟨rfl, rfl, by rw [c]⟩, if_pos (by rw [c]), c]
          · rw [if_neg (fun z => c (by omega)), if_neg (by simpa using fun z => c z.symm), Int32.sub_zero]
        rw [eb, gI_sI, gI_sR, inner a, inner y]
        by_cases c : a = y
        · rw [if_pos ⟨rfl, rfl, by rw [c]⟩, if_pos (c := some y = some a) (by rw [c]), c]
        · rw [if_neg (fun z => c (by omega)), if_neg (c := some y = some a) (by simpa using fun z => c z.symm), Int32.add_zero]
/-- how many are called -/
def cAll (asg : Nat → Option Nat) : Nat → Nat
  | 0 => 0
  | n + 1 => cAll asg n + (if asg n = none then 0 else 1)
def sumA (asg : Nat → Option Nat) (N : Nat) : Nat → Nat
  | 0 => 0
  | k + 1 => sumA asg N k + cA asg k N
theorem sumA_0 (asg : Nat → Option Nat) : ∀ K, sumA asg 0 K = 0
  | 0 => rfl
  | k + 1 => by rw [sumA, sumA_0 asg k]; rfl
theorem sumA_s (asg : Nat → Option Nat) (n : Nat) : ∀ K, sumA asg (n + 1) K = sumA asg n K + (match asg n with | some a => if a < K then 1 else 0 | none => 0)
  | 0 => by cases asg n <;> rfl
  | k + 1 => by
    rw [sumA, sumA, sumA_s asg n k, cA]
    cases c : asg n with
    | none => simp <;> omega
    | some a =>
      by_cases e : a = k
      · subst e; simp <;> omega
      · have : ¬ (some a : Option Nat) = some k := by simpa using e
        rw [if_neg this]
        by_cases e2 : a < k
        · simp [e2, show a < k + 1 by omega] <;> omega
        · simp [e2, show ¬ a < k + 1 by omega] <;> omega
theorem sumA_all {asg : Nat → Option Nat} {K : Nat} : ∀ N, (∀ p, p < N → ∀ a, asg p = some a → a < K) → sumA asg N K = cAll asg N
  | 0, _ => sumA_0 asg K
  | n + 1, h => by
    rw [sumA_s, cAll, sumA_all n (fun p hp => h p (by omega))]
    cases c : asg n with
    | none => simp
    | some a => simp [h n (by omega) a c]
theorem cAll_le {asg : Nat → Option Nat} : ∀ n, cAll asg n ≤ n
  | 0 => Nat.le_refl _
  | n + 1 => by
    have := cAll_le (asg := asg) n
    rw [cAll]; split <;> omega
theorem c_psize {N q K a0 : Nat} {asg : Nat → Option Nat} (hP : PicS N q K a0 σ) (hA : Seat N K a0 σ asg) (h : post (some (xI (nI (cAll asg N)))) σ) : AMet G l M_X6_size (d + 4) 0 0 [xR (some (7, 0))] σ post := by
  obtain ⟨k1, k2, k3, k4, k5, k6, k7, k8, k9, k10⟩ := hP
  have loop : ∀ (f k : Nat), K - k = f → k ≤ K → AW G l M_X6_size (d + 4) post σ 0 0 4 [some (xR (some (7, 0))), some (xI (nI (sumA asg N k))), some (xI (nI k))] [] := by
    intro f
    induction f with
    | zero =>
      intro k hf hk
      have e : k = K := by omega
      subst e
      refine vc_X6_size_4 (d := d + 3) ⟨q, k6, c_size k7 ⟨fun _ => ?_, fun c => absurd (nI_le (Nat.le_refl k) (by omega)) c⟩⟩
      rw [sumA_all N hA.2.1]
      exact h
    | succ f ih =>
      intro k hf hk
      refine vc_X6_size_4 (d := d + 3) ⟨q, k6, c_size k7 ⟨fun c => absurd ((nI_leI (by omega) (by omega)).mp c) (by omega), fun _ => ⟨q, k6, c_get k7 (show k < K by omega) ⟨a0 + k, rfl, ?_⟩⟩⟩⟩
      rw [nI_1, hA.2.2 k (by omega), nI_add]
      exact ih (k + 1) (by omega) (by omega)
  refine AMet.of rfl (Nat.le_of_ble_eq_true rfl) (vc_X6_size (d := d + 3) ?_)
  have k := loop K 0 rfl (Nat.zero_le _)
  have e : sumA asg N 0 = 0 := rfl
  rw [e, nI_0] at k
  exact k
theorem c_dismiss {N q K a0 : Nat} {asg : Nat → Option Nat} (hP : PicS N q K a0 σ) (hA : Seat N K a0 σ asg) (h : ∀ σ', SF σ σ' → gI σ' 7 3 0 = gI σ 7 3 0 → Seat N K a0 σ' (fun _ => none) → post none σ') : AMet G l M_X6_dismissAll (d + 4) 0 0 [xR (some (7, 0))] σ post := by
  have loop : ∀ (f k : Nat) (σ1 : AS), N - k = f → k ≤ N → SF σ σ1 → gI σ1 7 3 0 = gI σ 7 3 0 → (∃ asg1, Seat N K a0 σ1 asg1 ∧ ∀ p, p < k → asg1 p = none) → AW G l M_X6_dismissAll (d + 4) post σ1 0 0 2 [some (xR (some (7, 0))), some (xI (nI k))] [] := by
    intro f
    induction f with
    | zero =>
      intro k σ1 hf hk hF hT ⟨asg1, hA1, hn⟩
      have e : k = N := by omega
      subst e
      have P1 := hF.pic hP
      have hN := P1.2.2.1
      refine vc_X6_dismissAll_2 (d := d + 3) P1.1 (c_size P1.2.1 ⟨P1.1, fun _ => h σ1 hF hT ⟨fun p hp => ?_, fun p hp a e => (by cases e), fun a ha => ?_⟩, fun c => absurd (nI_le (Nat.le_refl k) (by omega)) c⟩)
      · rw [hA1.1 p hp, hn p hp]
      · rw [hA1.2.2 a ha]
        congr 1
        exact cA_congr k (fun p hp => by rw [hn p hp])
    | succ f ih =>
      intro k σ1 hf hk hF hT ⟨asg1, hA1, hn⟩
      have P1 := hF.pic hP
      have hN := P1.2.2.1
      refine vc_X6_dismissAll_2 (d := d + 3) P1.1 (c_size P1.2.1 ⟨P1.1, fun c => absurd ((nI_leI (by omega) (by omega)).mp c) (by omega), fun _ => c_get P1.2.1 (show k < N by omega) ⟨k, rfl, c_move none P1 hA1 (by omega) (fun a e => by cases e) (fun σ2 F2 T2 A2 => ?_)⟩⟩)
      rw [nI_1]
      refine ih (k + 1) σ2 (by omega) (by omega) (hF.tr F2) (T2.trans hT) ⟨_, A2, fun p hp => ?_⟩
      unfold updO
      by_cases c : p = k
      · rw [if_pos c]
      · rw [if_neg c]; exact hn p (by omega)
  refine AMet.of rfl (Nat.le_of_ble_eq_true rfl) (vc_X6_dismissAll (d := d + 3) ?_)
  have k := loop N 0 σ rfl (Nat.zero_le _) SF.rf rfl ⟨asg, hA, fun p hp => absurd hp (Nat.not_lt_zero p)⟩
  rw [nI_0] at k
  exact k
end PLAN
