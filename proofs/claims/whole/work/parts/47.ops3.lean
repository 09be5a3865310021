/-! Calls of the class: records, pay, fits, lay, no. -/
section OPS3
variable {G : GG} {l : Launch} {d : Nat} {post : Option AVal → AS → Prop} {σ : AS} {kk nn : Nat}
def recP (σ : AS) (w : Nat → Nat) (x y : Int32) (r : Nat) : Bool := decide (nI (w r) = x) && decide (gI σ 11 1 r = y)
/-- the records: whose each is -/
def RecW (N R : Nat) (w : Nat → Nat) (σ : AS) : Prop := AL σ 5 R (fun i => (11, i)) ∧ (∀ r, r < R → gR σ 11 0 r = some (6, w r) ∧ w r < N) ∧ ∀ p, p < N → gI σ 6 0 p = nI p
theorem c_findRecord {N R : Nat} {w : Nat → Nat} {x y : Int32} (hS : St σ) (hR : RecW N R w σ) (h : post (some (xR ((leastP (recP σ w x y) R).map (fun r => (11, r))))) σ) : AMet G l M_X11_findRecord (d + 4) 0 0 [xR (some (12, 0)), xI x, xI y] σ post := by
  obtain ⟨A5, r0, p0⟩ := hR
  have hn := A5.n_lt
  have loop : ∀ (f k : Nat), R - k = f → k ≤ R → (∀ r, r < k → recP σ w x y r = false) → AW G l M_X11_findRecord (d + 4) post σ 0 0 2 [some (xR (some (12, 0))), some (xI x), some (xI y), some (xI (nI k)), none] [] := by
    intro f
    induction f with
    | zero =>
      intro k hf hk hno
      have e : k = R := by omega
      subst e
      refine vc_X11_findRecord_2 (d := d + 3) hS (c_size A5 ⟨hS, fun _ => ?_, fun c => absurd (nI_le (Nat.le_refl k) (by omega)) c⟩)
      rw [leastP_none k hno] at h
      exact h
    | succ f ih =>
      intro k hf hk hno
      have hkR : k < R := by omega
      have next : recP σ w x y k = false → AW G l M_X11_findRecord (d + 4) post σ 0 0 2 [some (xR (some (12, 0))), some (xI x), some (xI y), some (xI (nI k + 1)), none] [] := fun z => by
        rw [nI_1]
        refine ih (k + 1) (by omega) (by omega) (fun r hr => ?_)
        by_cases e : r = k
        · rw [e]; exact z
        · exact hno r (by omega)
      refine vc_X11_findRecord_2 (d := d + 3) hS (c_size A5 ⟨hS, fun c => absurd ((nI_leI (by omega) (by omega)).mp c) (by omega), fun _ => c_get A5 hkR ⟨k, rfl, w k, (r0 k hkR).1, fun c => next ?_, fun c => ⟨fun c2 => next ?_, fun c2 => ?_⟩⟩⟩)
      · rw [p0 _ (r0 k hkR).2] at c
        unfold recP; rw [decide_eq_false c]; rfl
      · unfold recP; rw [decide_eq_false c2, Bool.and_false]
      · rw [p0 _ (r0 k hkR).2] at c
        rw [leastP_some R hkR (by unfold recP; rw [decide_eq_true c, decide_eq_true c2]; rfl) hno] at h
        exact h
  refine AMet.of rfl (Nat.le_of_ble_eq_true rfl) (vc_X11_findRecord (d := d + 3) ?_)
  have k := loop R 0 rfl (Nat.zero_le _) (fun r hr => absurd hr (Nat.not_lt_zero r))
  rw [nI_0] at k
  exact k
/-- what record r is worth, and its agreement's number -/
def AgP (σ : AS) (r : Nat) (num pay : Int32) : Prop := (gR σ 11 8 r = none ∧ num = -1 ∧ pay = 0) ∨ ∃ x q n t, gR σ 11 8 r = some (1, x) ∧ gR σ 1 1 x = some (0, q) ∧ AL σ q n (fun j => (9, t j)) ∧ num = gI σ 1 0 x ∧ pay = sumT σ t (gI σ 11 4 r) (gI σ 11 7 r) n
theorem c_earned {r : Nat} {num pay : Int32} (hA : AgP σ r num pay) (h : post (some (xI pay)) σ) : AMet G l M_X10_earned (d + 5) 0 0 [xR (some (11, r))] σ post := by
  rcases hA with ⟨h1, h2, h3⟩ | ⟨x, q, n, t, h1, h2, h3, h4, h5⟩
  · subst h3; exact c_earned0 h1 h
  · subst h5; exact c_earned1 h1 h2 h3 h
def ansT (f : Nat → Int32) (num pay a : Int32) : Int32 := if a = 0 then f 3 else if a = 1 then f 4 else if a = 2 then f 5 else if a = 3 then f 6 else if a = 4 then f 7 else if a = 5 then num else if a = 6 then pay else -1
theorem c_ansT {r : Nat} {num pay a : Int32} (hA : AgP σ r num pay) (h : post (some (xI (ansT (fun f => gI σ 11 f r) num pay a))) σ) : AMet G l M_X10_answer (d + 6) 0 0 [xR (some (11, r)), xI a] σ post := by
  have hA0 := hA
  refine AMet.of rfl (Nat.le_of_ble_eq_true rfl) (vc_X10_answer (d := d + 5) ⟨fun c => ?_, fun c => ?_, fun c => ?_, fun c => ?_, fun c => ?_, fun c => ⟨fun z => ?_, fun n z => ?_⟩, fun c => c_earned hA ?_, fun c => ?_⟩)
  · subst c; exact h
  · subst c; exact h
  · subst c; exact h
  · subst c; exact h
  · subst c; exact h
  · subst c
    rcases hA with ⟨h1, h2, h3⟩ | ⟨x, q, n, t, h1, h2, h3, h4, h5⟩
    · subst h2; exact h
    · rw [h1] at z; cases z
  · subst c
    rcases hA with ⟨h1, h2, h3⟩ | ⟨x, q, n', t, h1, h2, h3, h4, h5⟩
    · rw [h1] at z; cases z
    · rw [h1] at z; cases z
      subst h4
      exact ⟨x, rfl, x, h1, h⟩
  · subst c; exact h
  · have z : ∀ k : Int32, (0 ≤ k.toInt ∧ k.toInt ≤ 6) → ¬ a = k := fun k hk e => by subst e; omega
    rw [ansT, if_neg (z 0 (by decide)), if_neg (z 1 (by decide)), if_neg (z 2 (by decide)), if_neg (z 3 (by decide)), if_neg (z 4 (by decide)), if_neg (z 5 (by decide)), if_neg (z 6 (by decide))] at h
    exact h
theorem c_record {N R : Nat} {w : Nat → Nat} {num pay : Nat → Int32} {x y a : Int32} (hS : St σ) (hR : RecW N R w σ) (hA : ∀ r, r < R → AgP σ r (num r) (pay r)) (h0 : leastP (recP σ w x y) R = none → post (some (xI (-1))) σ) (h1 : ∀ r, leastP (recP σ w x y) R = some r → post (some (xI (ansT (fun f => gI σ 11 f r) (num r) (pay r) a))) σ) : AMet G l M_X11_record (d + 7) 0 0 [xR (some (12, 0)), xI x, xI y, xI a] σ post := by
  refine AMet.of rfl (Nat.le_of_ble_eq_true rfl) (vc_X11_record (d := d + 6) (c_findRecord hS hR ?_))
  cases c : leastP (recP σ w x y) R with
  | none => exact ⟨fun _ => h0 c, fun n z => (by cases z)⟩
  | some r => exact ⟨fun z => (by cases z), fun n z => ⟨r, (by cases z; rfl), c_ansT (hA r (leastP_out R c).1) (h1 r c)⟩⟩
def sumP (σ : AS) (w : Nat → Nat) (pay : Nat → Int32) (x lo hi : Int32) : Nat → Int64
  | 0 => 0
  | r + 1 => if nI (w r) = x ∧ ¬ gI σ 11 1 r < lo ∧ ¬ hi < gI σ 11 1 r then sumP σ w pay x lo hi r + (pay r).toInt64 else sumP σ w pay x lo hi r
theorem c_pay {N R : Nat} {w : Nat → Nat} {num pay : Nat → Int32} {x lo hi : Int32} (hS : St σ) (hR : RecW N R w σ) (hA : ∀ r, r < R → AgP σ r (num r) (pay r)) (h : post (some (xL (sumP σ w pay x lo hi R))) σ) : AMet G l M_X11_pay (d + 6) 0 0 [xR (some (12, 0)), xI x, xI lo, xI hi] σ post := by
  obtain ⟨A5, r0, p0⟩ := hR
  have hn := A5.n_lt
  have loop : ∀ (f k : Nat), R - k = f → k ≤ R → AW G l M_X11_pay (d + 6) post σ 0 0 6 [some (xR (some (12, 0))), some (xI x), some (xI lo), some (xI hi), some (xL (sumP σ w pay x lo hi k)), none, some (xI (nI k)), none] [] := by
    intro f
    induction f with
    | zero =>
      intro k hf hk
      have e : k = R := by omega
      subst e
      exact vc_X11_pay_6 (d := d + 5) hS (c_size A5 ⟨hS, fun _ => h, fun c => absurd (nI_le (Nat.le_refl k) (by omega)) c⟩)
    | succ f ih =>
      intro k hf hk
      have hkR : k < R := by omega
      have z := ih (k + 1) (by omega) (by omega)
      rw [sumP] at z
      refine vc_X11_pay_6 (d := d + 5) hS (c_size A5 ⟨hS, fun c => absurd ((nI_leI (by omega) (by omega)).mp c) (by omega), fun _ => c_get A5 hkR ⟨k, rfl, w k, (r0 k hkR).1, fun c => ?_, fun c => c_within (fun c2 => ⟨fun _ => ?_, fun c3 => absurd rfl c3⟩) (fun c2 c3 => ⟨fun c4 => absurd c4 (by decide), fun _ => c_earned (hA k hkR) ?_⟩)⟩⟩)
      · rw [p0 _ (r0 k hkR).2] at c
        rw [nI_1]
        rw [if_neg (fun q => c q.1)] at z
        exact z
      · rw [nI_1]
        rw [if_neg (fun q => c2.elim q.2.1 q.2.2)] at z
        exact z
      · rw [p0 _ (r0 k hkR).2] at c
        rw [nI_1]
        rw [if_pos ⟨c, c2, c3⟩] at z
        exact z
  refine AMet.of rfl (Nat.le_of_ble_eq_true rfl) (vc_X11_pay (d := d + 5) ?_)
  have k := loop R 0 rfl (Nat.zero_le _)
  rw [nI_0] at k
  exact k
theorem c_fits {N q K a0 : Nat} {s : Nat → List Int32} {x y w : Int32} (hP : PicS N q K a0 σ) (hs : ∀ a, a < K → StepsR σ (a0 + a) (s a))
    (h0 : ¬ ((∃ p, p < N ∧ x = nI p) ∧ (∃ a, a < K ∧ y = nI a) ∧ (¬ w < 0 ∧ ¬ 1 < w)) → post (some (xI (-1))) σ)
    (h1 : ∀ p a, p < N → a < K → x = nI p → y = nI a → (¬ w < 0 ∧ ¬ 1 < w) → w = 0 → post (some (xI (bI (valE (fun f => gI σ 6 f p) (s a))))) σ)
    (h2 : ∀ p a, p < N → a < K → x = nI p → y = nI a → (¬ w < 0 ∧ ¬ 1 < w) → ¬ w = 0 → post (some (xI (bI (canC σ a0 s (gI σ 12 10 0) p a)))) σ) : AMet G l M_X11_fits (d + 5) 0 0 [xR (some (12, 0)), xI x, xI y, xI w] σ post := by
  refine AMet.of rfl (Nat.le_of_ble_eq_true rfl) (vc_X11_fits (d := d + 4) (c_find hP.1 hP.2.1 (fun _ _ => rfl) (fun hn => ⟨hP.1, c_findA hP.2.2.2.2.2.1 hP.2.2.2.2.2.2.1 (fun _ _ => rfl) (fun _ => ⟨fun _ => h0 (fun z => by obtain ⟨⟨p, hp, e⟩, -⟩ := z; exact hn p hp e), fun n e => (by cases e)⟩) (fun _ _ _ => ⟨fun _ => h0 (fun z => by obtain ⟨⟨p, hp, e⟩, -⟩ := z; exact hn p hp e), fun n e => (by cases e)⟩)⟩) (fun p hp e => ⟨hP.1, c_findA hP.2.2.2.2.2.1 hP.2.2.2.2.2.2.1 (fun _ _ => rfl) (fun hn => ⟨fun z => (by cases z), fun n z => ⟨p, (by cases z; rfl), fun _ => h0 (fun z => by obtain ⟨-, ⟨a, ha, e⟩, -⟩ := z; exact hn a ha e), fun n z => (by cases z)⟩⟩) (fun a ha e2 => ⟨fun z => (by cases z), fun n z => ⟨p, (by cases z; rfl), fun z => (by cases z), fun n z => ⟨a0 + a, (by cases z; rfl), c_withinB (fun z => ⟨fun z2 => absurd rfl z2, fun _ => h0 (fun q => z q.2.2)⟩) (fun z => ⟨fun _ => ⟨fun c => ?_, fun c => ?_⟩, fun z2 => absurd z2 (by decide)⟩)⟩⟩⟩)⟩)))
  · refine c_isOpenTo (d := d + 1) (hs a ha) ?_
    have k := h2 p a hp ha e e2 z c
    unfold canC at k
    exact ⟨fun q => by rw [bI_eq.mp q] at k; exact k, fun q => by rw [bI_ne.mp q] at k; exact k⟩
  · refine c_suits (d := d + 2) (hs a ha) ?_
    have k := h1 p a hp ha e e2 z c
    exact ⟨fun q => by rw [bI_eq.mp q] at k; exact k, fun q => by rw [bI_ne.mp q] at k; exact k⟩
theorem PF.pic {N q K a0 : Nat} {σ' : AS} (F : PF σ σ') (k : PicS N q K a0 σ) : PicS N q K a0 σ' := by
  have s : sameK (fun c => c = 0 ∨ c = 23) σ σ' := F.1.sub (fun c hc => by rcases hc with rfl | rfl <;> decide)
  refine k.of (k.1.of fun c hc => ?_) (k.2.1.same s) (F.2.1 6) (fun p => F.2.2.2.2.2.1 0 p (by decide)) (F.2.2.2.2.2.2.2.2 0 0) (k.2.2.2.2.2.2.1.same s) (F.2.1 2) (fun x => F.2.2.2.1 0 x (by decide))
  refine ⟨fun f i _ => ?_, fun i _ => F.2.2.1 c i, Nat.le_of_eq (F.2.1 c).symm⟩
  by_cases h7 : c = 7
  · subst h7; exact F.2.2.2.2.2.2.2.2 f i
  · exact (F.1 c ⟨fun e => (by subst e; revert hc; unfold stKind; decide), fun e => (by subst e; revert hc; unfold stKind; decide), h7⟩).2.2.1 f i
theorem c_lay {N q K a0 : Nat} {asg : Nat → Option Nat} {s : Nat → List Int32} {w turn : Nat → Nat} {day : Int32} (hP : PicS N q K a0 σ) (hA : Seat N K a0 σ asg) (hd' : gI σ 12 10 0 = day) (hs : ∀ a, a < K → StepsR σ (a0 + a) (s a)) (hw : ∀ a, a < K → gI σ 2 4 (a0 + a) = nI (w a) ∧ w a < 2 ^ 31) (ht : ∀ p, p < N → gI σ 6 7 p = nI (turn p) ∧ turn p ≤ 60)
    (h0 : K = 0 → post (some (xI (-1))) σ)
    (h1 : K ≠ 0 → ∀ σ' asg', PF σ σ' → Seat N K a0 σ' asg' → (∀ p, p < N → FinAt N K (canC σ a0 s day) w (WL turn N K (canC σ a0 s day) w (61 * N)) asg' p) → (∀ p, p < N → (asg' p ≠ none ↔ WL turn N K (canC σ a0 s day) w (61 * N) p = true)) → post (some (xI (nI (cAll asg' N)))) σ') : AMet G l M_X11_lay (d + 21) 0 0 [xR (some (12, 0))] σ post := by
  refine AMet.of rfl (Nat.le_of_ble_eq_true rfl) (vc_X11_lay (d := d + 20) hP.1 ⟨q, hP.2.2.2.2.2.1, c_isEmpty hP.2.2.2.2.2.2.1 ⟨hP.1, fun c => ?_, fun c => ?_⟩⟩)
  · have hK : K ≠ 0 := fun z => by rw [if_pos z] at c; exact absurd c (by decide)
    rw [hd']
    refine c_layFor hP hA hs hw ht (fun σ' asg' F A f1 f2 => ?_)
    have P' := F.pic hP
    exact ⟨P'.1, c_psize (d := d + 16) P' A (h1 hK σ' asg' F A f1 f2)⟩
  · refine h0 ?_
    by_cases z : K = 0
    · exact z
    · rw [if_neg z] at c; exact absurd rfl c
theorem c_no {N q K a0 : Nat} {asg : Nat → Option Nat} {s : Nat → List Int32} {x day : Int32} (hP : PicS N q K a0 σ) (hA : Seat N K a0 σ asg) (hd' : gI σ 12 10 0 = day) (hs : ∀ a, a < K → StepsR σ (a0 + a) (s a))
    (h0 : (∀ p, p < N → x = nI p → asg p = none) → post (some (xI (-1))) σ)
    (h1 : ∀ p g σ1 σ', p < N → x = nI p → asg p = some g → SF σ σ1 → MF (sI σ1 6 6 p 1) σ' → Seat N K a0 σ' (applyRow (updO asg p none) (some g) (mendRow N K (updO asg p none) (canC (sI σ1 6 6 p 1) a0 s day) g)) → RW σ' 4 (mendRow N K (updO asg p none) (canC (sI σ1 6 6 p 1) a0 s day) g).length (fun i => nI ((mendRow N K (updO asg p none) (canC (sI σ1 6 6 p 1) a0 s day) g).getD i 0)) → post (some (xI (nI (mendRow N K (updO asg p none) (canC (sI σ1 6 6 p 1) a0 s day) g).length))) σ') : AMet G l M_X11_no (d + 7) 0 0 [xR (some (12, 0)), xI x] σ post := by
  have hn := hP.2.1.n_lt
  refine AMet.of rfl (Nat.le_of_ble_eq_true rfl) (vc_X11_no (d := d + 6) (c_find hP.1 hP.2.1 (fun _ _ => rfl) (fun hnp => ⟨fun _ => h0 (fun p hp e => absurd e (hnp p hp)), fun n e => (by cases e)⟩) (fun p hp e => ⟨fun z => (by cases z), fun n z => ⟨p, (by cases z; rfl), fun z2 => ?_, fun n z2 => ?_⟩⟩)))
  · refine h0 (fun p' hp' e' => ?_)
    have : p = p' := (nI_eq (by omega) (by omega)).mp (e.symm.trans e')
    subst this
    rw [hA.1 p hp] at z2
    cases c : asg p with
    | none => rfl
    | some a => rw [c] at z2; cases z2
  · obtain ⟨g, hg⟩ : ∃ g, asg p = some g := by
      rw [hA.1 p hp] at z2
      cases c : asg p with
      | none => rw [c] at z2; cases z2
      | some a => exact ⟨a, rfl⟩
    have hgK := hA.2.1 p hp g hg
    have r : gR σ 6 11 p = some (2, a0 + g) := by rw [hA.1 p hp, hg]; rfl
    refine ⟨a0 + g, by rw [r] at z2; cases z2; rfl, c_move none hP hA hp (fun a e => (by cases e)) (fun σ1 F1 _ A1 => ⟨(F1.pic hP).1, ?_⟩)⟩
    rw [r, (F1.1 12 (by decide)).2.1, hd']
    have P1 := F1.pic hP
    have K6 : sameK (fun c => c ≠ 6) σ1 (sI σ1 6 6 p 1) := fun c hc => eqK_sI hc
    have s6 : sameK (fun c => c = 0 ∨ c = 23) σ1 (sI σ1 6 6 p 1) := K6.sub (fun c hc => by rcases hc with rfl | rfl <;> decide)
    have P2 : PicS N q K a0 (sI σ1 6 6 p 1) := P1.of P1.1.sI (P1.2.1.same s6) rfl (fun i => gI_o (fun z => absurd z.2.1 (by decide))) rfl (P1.2.2.2.2.2.2.1.same s6) rfl (fun i => gI_o (fun z => absurd z.1 (by decide)))
    have A2 : Seat N K a0 (sI σ1 6 6 p 1) (updO asg p none) := ⟨A1.1, A1.2.1, fun a ha => (gI_o (fun z => absurd z.1 (by decide))).trans (A1.2.2 a ha)⟩
    have s2 : ∀ a, a < K → StepsR (sI σ1 6 6 p 1) (a0 + a) (s a) := fun a ha => by
      obtain ⟨y, y1, y2, y3, y4, y5, y6⟩ := F1.steps (hs a ha)
      exact ⟨y, y1, y2, y3, y4, y5, y6⟩
    refine c_mend (d := d) P2 A2 s2 hgK (fun σ' F A W => ?_)
    have S' : St σ' := P2.1.of fun c hc => by
      by_cases h7 : c = 7 ∨ c = 8 ∨ c = 20
      · refine ⟨fun f i _ => ?_, fun i _ => F.2.2.1 c i, Nat.le_of_eq (F.2.1 c).symm⟩
        rcases h7 with rfl | rfl | rfl
        · exact F.2.2.2.2.2.2.2.1 f i
        · exact F.2.2.2.2.2.2.2.2.1 f i
        · exact F.2.2.2.2.2.2.2.2.2.2.2 f i
      · refine ⟨fun f i _ => (F.1 c ⟨?_, ?_, fun e => h7 (Or.inl e), fun e => h7 (Or.inr (Or.inl e)), fun e => h7 (Or.inr (Or.inr e))⟩).2.2.1 f i, fun i _ => F.2.2.1 c i, Nat.le_of_eq (F.2.1 c).symm⟩ <;> (intro e; subst e; revert hc; unfold stKind; decide)
    refine ⟨S', ?_⟩
    rw [W.size]
    exact h1 p g σ1 σ' hp e hg F1 F A W
end OPS3
