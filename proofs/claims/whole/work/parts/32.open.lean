/-! Who is open to what. -/
section OPEN
variable {G : GG} {l : Launch} {d : Nat} {post : Option AVal → AS → Prop} {σ : AS} {kk nn : Nat}
theorem hB_congr {f g : Nat → Int32} (h : ∀ k, k ≠ 10 → f k = g k) (k v : Int32) : hB f k v = hB g k v := by
  unfold hB
  rw [h 3 (by decide), h 4 (by decide), h 9 (by decide), h 1 (by decide), h 2 (by decide)]
theorem step1_congr {f g : Nat → Int32} (h : ∀ k, k ≠ 10 → f k = g k) (x : Int32) (st : List Bool) : step1 f x st = step1 g x st := by
  unfold step1
  rw [hB_congr h]
theorem runB_congr {f g : Nat → Int32} (h : ∀ k, k ≠ 10 → f k = g k) : ∀ (s : List Int32) (st : List Bool), runB f s st = runB g s st
  | [], _ => rfl
  | x :: s, st => by rw [runB, runB, step1_congr h, runB_congr h s]
theorem valE_congr {f g : Nat → Int32} (h : ∀ k, k ≠ 10 → f k = g k) (s : List Int32) : valE f s = valE g s := by unfold valE; rw [runB_congr h]
theorem opn_congr {f g : Nat → Int32} (h : ∀ k, k ≠ 10 → f k = g k) (s : List Int32) (c day : Int32) : opn f s c day = opn g s c day := by
  unfold opn
  rw [h 6 (by decide), h 8 (by decide), valE_congr h]
/-- what looking who is open leaves alone -/
def OF (σ σ' : AS) : Prop := sameK (fun c => c ≠ 6) σ σ' ∧ (∀ c, cnt σ' c = cnt σ c) ∧ (∀ c i, gN σ' c i = gN σ c i) ∧ (∀ f i, f ≠ 10 → gI σ' 6 f i = gI σ 6 f i) ∧ (∀ f i, gR σ' 6 f i = gR σ 6 f i)
theorem OF.rf : OF σ σ := ⟨sameK.rf, fun _ => rfl, fun _ _ => rfl, fun _ _ _ => rfl, fun _ _ => rfl⟩
theorem OF.tr {σ1 σ2 : AS} (h : OF σ σ1) (k : OF σ1 σ2) : OF σ σ2 := ⟨h.1.tr k.1, fun c => (k.2.1 c).trans (h.2.1 c), fun c i => (k.2.2.1 c i).trans (h.2.2.1 c i), fun f i z => (k.2.2.2.1 f i z).trans (h.2.2.2.1 f i z), fun f i => (k.2.2.2.2 f i).trans (h.2.2.2.2 f i)⟩
theorem OF.set {p : Nat} {v : Int32} : OF σ (sI σ 6 10 p v) := ⟨fun c hc => eqK_sI hc, fun _ => rfl, fun _ _ => rfl, fun f i z => by rw [gI_sI, if_neg (fun e => z e.2.1)], fun _ _ => rfl⟩
theorem OF.st {σ' : AS} (h : OF σ σ') (hS : St σ) : St σ' := hS.same h.1 (fun c hc e => by subst e; revert hc; unfold stKind; decide)
theorem OF.al {σ' : AS} {q n : Nat} {e : Nat → Nm} (h : OF σ σ') (k : AL σ q n e) : AL σ' q n e := k.same (h.1.sub (fun c hc => by rcases hc with rfl | rfl <;> decide))
theorem OF.pic {σ' : AS} {N q K a0 : Nat} (h : OF σ σ') (k : PicS N q K a0 σ) : PicS N q K a0 σ' := by
  obtain ⟨k1, k2, k3, k4, k5, k6, k7, k8, k9, k10⟩ := k
  exact ⟨h.st k1, h.al k2, k3, (h.2.1 6).trans k4, fun p hp => (h.2.2.2.1 0 p (by decide)).trans (k5 p hp), ((h.1 7 (by decide)).2.2.1 0 0).trans k6, h.al k7, k8, by rw [h.2.1]; exact k9, fun a ha => ((h.1 2 (by decide)).2.1 0 _).trans (k10 a ha)⟩
theorem OF.seat {σ' : AS} {N K a0 : Nat} {asg : Nat → Option Nat} (h : OF σ σ') (k : Seat N K a0 σ asg) : Seat N K a0 σ' asg := ⟨fun p hp => (h.2.2.2.2 11 p).trans (k.1 p hp), k.2.1, fun a ha => ((h.1 2 (by decide)).2.1 6 _).trans (k.2.2 a ha)⟩
theorem OF.steps {σ' : AS} {x : Nat} {s : List Int32} (h : OF σ σ') (k : StepsR σ x s) : StepsR σ' x s := by
  obtain ⟨a, h1, h2, h3, h4, h5, h6⟩ := k
  have q2 := h.1 2 (by decide)
  have q25 := h.1 25 (by decide)
  exact ⟨a, (q2.2.2.1 5 x).trans h1, by rw [q25.1]; exact h2, (q25.2.2.2.1 a).trans h3, h4, fun j hj => (q25.2.2.2.2.1 a j).trans (h5 j hj), h6⟩
/-- whether p can be in ask a on a day, by the class -/
def canC (σ : AS) (a0 : Nat) (s : Nat → List Int32) (day : Int32) (p a : Nat) : Bool := opn (fun f => gI σ 6 f p) (s a) (gI σ 2 2 (a0 + a)) day
theorem canC_keep {σ' : AS} {a0 : Nat} {s : Nat → List Int32} {day : Int32} {p a : Nat} (h : OF σ σ') : canC σ' a0 s day p a = canC σ a0 s day p a := by
  unfold canC
  rw [(h.1 2 (by decide)).2.1, opn_congr (fun k hk => h.2.2.2.1 k p hk)]
theorem c_look {N q K a0 : Nat} {s : Nat → List Int32} {day : Int32} (hP : PicS N q K a0 σ) (hs : ∀ a, a < K → StepsR σ (a0 + a) (s a)) (h : ∀ σ', OF σ σ' → (∀ p, p < N → ∀ a, a < K → jb (gI σ' 6 10 p) (nI a) = canC σ a0 s day p a) → post none σ') : AMet G l M_X6_lookWhoIsOpen (d + 4) 0 0 [xR (some (7, 0)), xI day] σ post := by
  have hN := hP.2.2.1
  have hK := hP.2.2.2.2.2.2.2.1
  have inner : ∀ (p : Nat), p < N → ∀ (f v : Nat) (σ1 : AS), K - v = f → v ≤ K → OF σ σ1 → (∀ a, a < K → jb (gI σ1 6 10 p) (nI a) = (decide (a < v) && canC σ a0 s day p a)) →
      (∀ σ2, OF σ σ2 → (∀ i, i ≠ p → gI σ2 6 10 i = gI σ1 6 10 i) → (∀ a, a < K → jb (gI σ2 6 10 p) (nI a) = canC σ a0 s day p a) → AW G l M_X6_lookWhoIsOpen (d + 4) post σ2 0 0 2 [some (xR (some (7, 0))), some (xI day), some (xI (nI p + 1)), none, none] []) →
      AW G l M_X6_lookWhoIsOpen (d + 4) post σ1 0 0 33 [some (xR (some (7, 0))), some (xI day), some (xI (nI p)), some (xR (some (6, p))), some (xI (nI v))] [] := by
    intro p hp f
    induction f with
    | zero =>
      intro v σ1 hf hv hF hb k
      have P1 := hF.pic hP
      have e : v = K := by omega
      subst e
      refine vc_X6_lookWhoIsOpen_33 (d := d + 3) ⟨q, P1.2.2.2.2.2.1, c_size P1.2.2.2.2.2.2.1 ⟨fun _ => k σ1 hF (fun _ _ => rfl) (fun a ha => ?_), fun c => absurd (nI_le (Nat.le_refl v) (by omega)) c⟩⟩
      rw [hb a ha, decide_eq_true ha, Bool.true_and]
    | succ f ih =>
      intro v σ1 hf hv hF hb k
      have P1 := hF.pic hP
      have hvK : v < K := by omega
      refine vc_X6_lookWhoIsOpen_33 (d := d + 3) ⟨q, P1.2.2.2.2.2.1, c_size P1.2.2.2.2.2.2.1 ⟨fun c => absurd ((nI_leI (by omega) (by omega)).mp c) (by omega), fun _ => ⟨q, P1.2.2.2.2.2.1, c_get P1.2.2.2.2.2.2.1 hvK ⟨a0 + v, rfl, c_isOpenTo (d := d) (hF.steps (hs v hvK)) ?_⟩⟩⟩⟩
      have ec : opn (fun f => gI σ1 6 f p) (s v) (gI σ1 2 2 (a0 + v)) day = canC σ a0 s day p v := canC_keep (day := day) hF
      rw [ec]
      refine ⟨fun c => ?_, fun c => ?_⟩
      · rw [nI_1]
        have c0 := bI_eq.mp c
        refine ih (v + 1) σ1 (by omega) (by omega) hF (fun a ha => ?_) k
        rw [hb a ha]
        by_cases e : a = v
        · subst e; rw [c0, Bool.and_false, Bool.and_false]
        · by_cases e2 : a < v
          · rw [decide_eq_true e2, decide_eq_true (show a < v + 1 by omega)]
          · rw [decide_eq_false e2, decide_eq_false (show ¬ a < v + 1 by omega)]
      · rw [nI_1]
        have c1 := bI_ne.mp c
        refine ih (v + 1) _ (by omega) (by omega) (hF.tr OF.set) (fun a ha => ?_) (fun σ2 F2 o2 b2 => k σ2 F2 (fun i hi => ?_) b2)
        · rw [gI_self, jb_set _ (by omega) (by omega), hb a ha]
          by_cases e : a = v
          · subst e; rw [c1, decide_eq_true (Nat.lt_succ_self a), decide_eq_true (rfl : a = a), Bool.or_true]; rfl
          · rw [decide_eq_false e, Bool.or_false]
            by_cases e2 : a < v
            · rw [decide_eq_true e2, decide_eq_true (show a < v + 1 by omega)]
            · rw [decide_eq_false e2, decide_eq_false (show ¬ a < v + 1 by omega)]
        · rw [o2 i hi, gI_sI, if_neg (fun z => hi z.2.2)]
  have outer : ∀ (f k : Nat) (σ1 : AS), N - k = f → k ≤ N → OF σ σ1 → (∀ p, p < k → ∀ a, a < K → jb (gI σ1 6 10 p) (nI a) = canC σ a0 s day p a) → AW G l M_X6_lookWhoIsOpen (d + 4) post σ1 0 0 2 [some (xR (some (7, 0))), some (xI day), some (xI (nI k)), none, none] [] := by
    intro f
    induction f with
    | zero =>
      intro k σ1 hf hk hF hb
      have P1 := hF.pic hP
      have e : k = N := by omega
      subst e
      exact vc_X6_lookWhoIsOpen_2 (d := d + 3) P1.1 (c_size P1.2.1 ⟨P1.1, fun _ => h σ1 hF hb, fun c => absurd (nI_le (Nat.le_refl k) (by omega)) c⟩)
    | succ f ih =>
      intro k σ1 hf hk hF hb
      have P1 := hF.pic hP
      have q0 : (0 : Int32) = nI 0 := nI_0.symm
      refine vc_X6_lookWhoIsOpen_2 (d := d + 3) P1.1 (c_size P1.2.1 ⟨P1.1, fun c => absurd ((nI_leI (by omega) (by omega)).mp c) (by omega), fun _ => c_get P1.2.1 (show k < N by omega) ⟨k, rfl, ?_⟩⟩)
      rw [q0]
      refine inner k (by omega) K 0 _ rfl (Nat.zero_le _) (hF.tr OF.set) (fun a ha => ?_) (fun σ2 F2 o2 b2 => ?_)
      · rw [gI_self, nI_0, jb_0 (by omega)]; rfl
      · rw [nI_1]
        refine ih (k + 1) σ2 (by omega) (by omega) F2 (fun p hp a ha => ?_)
        by_cases e : p = k
        · subst e; exact b2 a ha
        · rw [o2 p e, gI_sI, if_neg (fun z => e z.2.2)]
          exact hb p (by omega) a ha
  refine AMet.of rfl (Nat.le_of_ble_eq_true rfl) (vc_X6_lookWhoIsOpen (d := d + 3) ?_)
  have k := outer N 0 σ rfl (Nat.zero_le _) OF.rf (fun p hp => absurd hp (Nat.not_lt_zero p))
  rw [nI_0] at k
  exact k
end OPEN
