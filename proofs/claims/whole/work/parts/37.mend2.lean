/-! Mending the plan, the class's way. -/
section MEND2
variable {G : GG} {l : Launch} {d : Nat} {post : Option AVal → AS → Prop} {σ : AS} {kk nn : Nat}
/-- the first of the rows of length n for a place in g -/
def rowF (N : Nat) (asg : Nat → Option Nat) (can : Nat → Nat → Bool) (rl : Nat → Option Nat) : Nat → Nat → List Nat
  | 0, _ => []
  | n + 1, g => match leastP (rowP asg can rl g (n + 1)) N with
    | some p => p :: (match asg p with
      | some g' => rowF N asg can rl n g'
      | none => [])
    | none => []
def applyRow : (Nat → Option Nat) → Option Nat → List Nat → Nat → Option Nat
  | asg, _, [] => asg
  | asg, g, x :: xs => applyRow (updO asg x g) (asg x) xs
def mendRow (N K : Nat) (asg : Nat → Option Nat) (can : Nat → Nat → Bool) (g : Nat) : List Nat := match dl N asg can K g with
  | some n => rowF N asg can (dl N asg can K) n g
  | none => []
theorem dl_row {N K g L : Nat} {asg : Nat → Option Nat} {can : Nat → Nat → Bool} (h : dl N asg can K g = some L) : ∃ p, leastP (rowP asg can (dl N asg can K) g L) N = some p := by
  have hr := dl_range _ _ _ h
  have h1 := (dl_fin K hr.2).mp h
  obtain ⟨m, rfl⟩ : ∃ m, L = m + 1 := ⟨L - 1, by omega⟩
  have e : leastP (rowP asg can (dl N asg can K) g (m + 1)) N = leastP (rowP asg can (dl N asg can m) g (m + 1)) N := leastP_congr N (fun p _ => rowP_congr (fun x => dl_fin K (by omega)))
  rw [e]
  rw [dl_succ] at h1
  cases c : dl N asg can m g with
  | some y =>
    rw [c] at h1
    have := (dl_range _ _ _ c).2
    cases h1
    omega
  | none =>
    rw [c] at h1
    have h1 : (if (leastP (rowP asg can (dl N asg can m) g (m + 1)) N).isSome = true then some (m + 1) else none) = some (m + 1) := h1
    by_cases q : (leastP (rowP asg can (dl N asg can m) g (m + 1)) N).isSome = true
    · cases z : leastP (rowP asg can (dl N asg can m) g (m + 1)) N with
      | some p => exact ⟨p, rfl⟩
      | none => rw [z] at q; cases q
    · rw [if_neg q] at h1; cases h1
theorem rowP_lead {asg rl : Nat → Option Nat} {can : Nat → Nat → Bool} {g len p : Nat} (h : rowP asg can rl g len p = true) : leadB asg rl len p = true ∧ asg p ≠ some g ∧ can p g = true := by
  unfold rowP at h
  cases c1 : leadB asg rl len p <;> cases c2 : can p g <;> rw [c1, c2] at h <;> simp at h
  exact ⟨rfl, h, rfl⟩
/-- mending changes so much -/
def MF (σ σ' : AS) : Prop := sameK (fun c => c ≠ 2 ∧ c ≠ 6 ∧ c ≠ 7 ∧ c ≠ 8 ∧ c ≠ 20) σ σ' ∧ (∀ c, cnt σ' c = cnt σ c) ∧ (∀ c i, gN σ' c i = gN σ c i) ∧ (∀ f i, f ≠ 6 → f ≠ 8 → gI σ' 2 f i = gI σ 2 f i) ∧ (∀ f i, gR σ' 2 f i = gR σ 2 f i) ∧ (∀ f i, f ≠ 10 → gI σ' 6 f i = gI σ 6 f i) ∧ (∀ f i, f ≠ 11 → gR σ' 6 f i = gR σ 6 f i) ∧ (∀ f i, gR σ' 7 f i = gR σ 7 f i) ∧ (∀ f i, gR σ' 8 f i = gR σ 8 f i) ∧ (∀ r, r ≠ 4 → gI σ' 8 1 r = gI σ 8 1 r) ∧ (∀ a j, a ≠ 4 → gA σ' 20 a j = gA σ 20 a j) ∧ (∀ f i, gR σ' 20 f i = gR σ 20 f i)
theorem MF.tr {σ1 σ2 : AS} (h : MF σ σ1) (k : MF σ1 σ2) : MF σ σ2 := ⟨h.1.tr k.1, fun c => (k.2.1 c).trans (h.2.1 c), fun c i => (k.2.2.1 c i).trans (h.2.2.1 c i), fun f i z z2 => (k.2.2.2.1 f i z z2).trans (h.2.2.2.1 f i z z2), fun f i => (k.2.2.2.2.1 f i).trans (h.2.2.2.2.1 f i), fun f i z => (k.2.2.2.2.2.1 f i z).trans (h.2.2.2.2.2.1 f i z), fun f i z => (k.2.2.2.2.2.2.1 f i z).trans (h.2.2.2.2.2.2.1 f i z), fun f i => (k.2.2.2.2.2.2.2.1 f i).trans (h.2.2.2.2.2.2.2.1 f i), fun f i => (k.2.2.2.2.2.2.2.2.1 f i).trans (h.2.2.2.2.2.2.2.2.1 f i), fun f z => (k.2.2.2.2.2.2.2.2.2.1 f z).trans (h.2.2.2.2.2.2.2.2.2.1 f z), fun f i z => (k.2.2.2.2.2.2.2.2.2.2.1 f i z).trans (h.2.2.2.2.2.2.2.2.2.2.1 f i z), fun f i => (k.2.2.2.2.2.2.2.2.2.2.2 f i).trans (h.2.2.2.2.2.2.2.2.2.2.2 f i)⟩
theorem PF.mf {σ' : AS} (h : PF σ σ') : MF σ σ' := ⟨h.1.sub (fun c hc => ⟨hc.1, hc.2.1, hc.2.2.1⟩), h.2.1, h.2.2.1, fun f i z _ => h.2.2.2.1 f i z, h.2.2.2.2.1, h.2.2.2.2.2.1, h.2.2.2.2.2.2.1, h.2.2.2.2.2.2.2.2, fun f i => (h.1 8 (by decide)).2.2.1 f i, fun r _ => (h.1 8 (by decide)).2.1 1 r, fun a j _ => (h.1 20 (by decide)).2.2.2.2.1 a j, fun f i => (h.1 20 (by decide)).2.2.1 f i⟩
theorem QF.mf {σ' : AS} (h : QF σ σ') : MF σ σ' := ⟨h.1.sub (fun c hc => hc.1), h.2.1, fun c i => by
  by_cases e : c = 2
  · subst e; exact h.2.2.2.2 i
  · exact (h.1 c e).2.2.2.1 i, fun f i _ z => h.2.2.1 f i z, h.2.2.2.1, fun f i _ => (h.1 6 (by decide)).2.1 f i, fun f i _ => (h.1 6 (by decide)).2.2.1 f i, fun f i => (h.1 7 (by decide)).2.2.1 f i, fun f i => (h.1 8 (by decide)).2.2.1 f i, fun r _ => (h.1 8 (by decide)).2.1 1 r, fun a j _ => (h.1 20 (by decide)).2.2.2.2.1 a j, fun f i => (h.1 20 (by decide)).2.2.1 f i⟩
theorem MF.row {v : Int32} : MF σ (sI σ 8 1 4 v) := ⟨fun c hc => eqK_sI hc.2.2.2.1, fun _ => rfl, fun _ _ => rfl, fun f i _ _ => gI_o (fun e => absurd e.1 (by decide)), fun _ _ => rfl, fun f i _ => gI_o (fun e => absurd e.1 (by decide)), fun _ _ _ => rfl, fun _ _ => rfl, fun _ _ => rfl, fun r h => gI_o (fun e => h e.2.2), fun _ _ _ => rfl, fun _ _ => rfl⟩
theorem RAdd.mf {σ' : AS} {n : Nat} {v : Int32} (h : RAdd σ σ' 4 n v) : MF σ σ' := ⟨h.1.sub (fun c hc => hc.2.2.2), h.2.1, h.2.2.2.1, fun f i _ _ => (h.1 2 (by decide)).2.1 f i, fun f i => h.2.2.1 2 f i, fun f i _ => (h.1 6 (by decide)).2.1 f i, fun f i _ => h.2.2.1 6 f i, fun f i => h.2.2.1 7 f i, fun f i => h.2.2.1 8 f i, h.2.2.2.2.2.1, fun a j ha => by rw [h.2.2.2.2.2.2, if_neg (fun e => ha e.1)], fun f i => h.2.2.1 20 f i⟩
theorem RAdd.pic {σ' : AS} {N q K a0 r n : Nat} {v : Int32} (h : RAdd σ σ' r n v) (k : PicS N q K a0 σ) : PicS N q K a0 σ' := by
  obtain ⟨k1, k2, k3, k4, k5, k6, k7, k8, k9, k10⟩ := k
  have s : sameK (fun c => c = 0 ∨ c = 23) σ σ' := h.1.sub (fun c hc => by rcases hc with rfl | rfl <;> decide)
  exact ⟨h.st k1, k2.same s, k3, (h.2.1 6).trans k4, fun p hp => ((h.1 6 (by decide)).2.1 0 p).trans (k5 p hp), (h.2.2.1 7 0 0).trans k6, k7.same s, k8, by rw [h.2.1]; exact k9, fun a ha => ((h.1 2 (by decide)).2.1 0 _).trans (k10 a ha)⟩
theorem RAdd.seat {σ' : AS} {N K a0 r n : Nat} {v : Int32} {asg : Nat → Option Nat} (h : RAdd σ σ' r n v) (k : Seat N K a0 σ asg) : Seat N K a0 σ' asg := ⟨fun p hp => (h.2.2.1 6 11 p).trans (k.1 p hp), k.2.1, fun a ha => ((h.1 2 (by decide)).2.1 6 _).trans (k.2.2 a ha)⟩
/-- who was moved sits in an ask with a longer row now -/
def MvI (N L : Nat) (asg rl asg1 : Nat → Option Nat) : Prop := ∀ p, p < N → asg1 p = asg p ∨ ((∃ y v, asg1 p = some y ∧ rl y = some v ∧ L < v) ∧ ∃ z v, asg p = some z ∧ rl z = some v ∧ L ≤ v)
theorem MvI.row {N L g : Nat} {asg rl asg1 : Nat → Option Nat} {can : Nat → Nat → Bool} (h : MvI N L asg rl asg1) (hL : 1 ≤ L) : leastP (rowP asg1 can rl g L) N = leastP (rowP asg can rl g L) N := by
  refine leastP_congr N (fun p hp => ?_)
  rcases h p hp with e | ⟨⟨y, v, e1, e2, e3⟩, z, u, e4, e5, e6⟩
  · unfold rowP leadB; rw [e]
  · have k1 : leadB asg1 rl L p = false := by
      unfold leadB; rw [e1]
      exact decide_eq_false (fun q => by rw [e2] at q; cases q; omega)
    have k2 : leadB asg rl L p = false := by
      unfold leadB; rw [e4]
      exact decide_eq_false (fun q => by rw [e5] at q; cases q; omega)
    unfold rowP; rw [k1, k2]
    simp
theorem RW.ext {r n : Nat} {b b' : Nat → Int32} (h : RW σ r n b) (e : ∀ i, i < n → b i = b' i) : RW σ r n b' := h.fits e
theorem a_mend {N q K a0 : Nat} {asg : Nat → Option Nat} {can : Nat → Nat → Bool} : ∀ (L g j : Nat) (σ1 : AS) (asg1 : Nat → Option Nat) (bS : Nat → Int32), dl N asg can K g = some L → g < K → PicS N q K a0 σ1 → Seat N K a0 σ1 asg1 → (∀ p, p < N → ∀ a, a < K → jb (gI σ1 6 10 p) (nI a) = can p a) → RLR K a0 σ1 (dl N asg can K) → MvI N L asg (dl N asg can K) asg1 → RW σ1 4 j bS → j + L ≤ 6 →
    (∀ σ', MF σ1 σ' → Seat N K a0 σ' (applyRow asg1 (some g) (rowF N asg can (dl N asg can K) L g)) → (rowF N asg can (dl N asg can K) L g).length = L → RW σ' 4 (j + L) (fun i => if i < j then bS i else nI ((rowF N asg can (dl N asg can K) L g).getD (i - j) 0)) → post none σ') →
    AW G l M_X6_mend (d + 5) post σ1 0 0 25 [some (xR (some (7, 0))), none, none, some (xR (some (2, a0 + g))), some (xI (nI L)), none, none] [] := by
  intro L
  induction L with
  | zero => intro g j σ1 asg1 bS h; exact absurd (dl_range _ _ _ h).1 (by decide)
  | succ m ih =>
    intro g j σ1 asg1 bS hg hgK P A C R I W hj h
    have hN := P.2.2.1
    have rng : ∀ a x, dl N asg can K a = some x → x < 100 := fun a x e => by
      have := dl_range _ _ _ e
      have := P.2.2.2.2.2.2.2.1
      omega
    obtain ⟨x, ex⟩ := dl_row hg
    obtain ⟨hx, px, -⟩ := leastP_out N ex
    obtain ⟨lx, nx, cx⟩ := rowP_lead px
    have eF : rowF N asg can (dl N asg can K) (m + 1) g = x :: (match asg x with | some g' => rowF N asg can (dl N asg can K) m g' | none => []) := by
      rw [rowF, ex]
    have e1 : asg1 x = asg x := by
      rcases I x hx with e | ⟨-, z, u, e4, e5, e6⟩
      · exact e
      · exfalso
        unfold leadB at lx
        rw [e4] at lx
        have := of_decide_eq_true lx
        rw [e5] at this
        cases this; omega
    refine vc_X6_mend_25 (d := d + 4) ⟨fun c => absurd c (nI_nle (by omega) (by omega)), fun _ => ⟨fun c => (by cases c), fun n c => ⟨a0 + g, (by cases c; rfl), ?_⟩⟩⟩
    refine c_first (d := d) (can := can) P A C R rng hgK (by omega) (by omega) ?_
    rw [I.row (by omega), ex]
    refine ⟨fun c => (by cases c), fun n c => ⟨x, (by cases c; rfl), ?_⟩⟩
    refine c_move (some g) P A hx (fun a e => by cases e; exact hgK) (fun σ2 F2 _ A2 => ?_)
    have P2 := F2.pic P
    have W2 : RW σ2 4 j bS := W.same F2.1 (by decide) (by decide)
    refine ⟨P2.1, c_radd P2.1 (by decide) W2 (by show j < 6; omega) (fun σ3 D3 => ?_)⟩
    have P3 := D3.pic P2
    have A3 := D3.seat A2
    have W3 := D3.self P2.1 (by decide) (by show j < 6; omega) W2
    rw [P2.2.2.2.2.1 x hx] at W3
    have G3 : MF σ1 σ3 := F2.pf.mf.tr D3.mf
    have C3 : ∀ p, p < N → ∀ a, a < K → jb (gI σ3 6 10 p) (nI a) = can p a := fun p hp a ha => by
      rw [(D3.1 6 (by decide)).2.1, F2.2.2.2.2.2.1]; exact C p hp a ha
    have R3 : RLR K a0 σ3 (dl N asg can K) := fun a ha => by
      rw [(D3.1 2 (by decide)).2.1, F2.2.2.2.1 8 _ (by decide)]; exact R a ha
    have eS : (nI (m + 1) : Int32) + (-1) = nI m := by rw [← Int32.sub_eq_add_neg]; exact nI_pred m
    rw [eS, A.1 x hx, e1]
    cases c : asg x with
    | none =>
      unfold leadB at lx
      rw [c] at lx
      have hm : m = 0 := by
        have := of_decide_eq_true lx
        omega
      subst hm
      rw [c] at eF
      have eF : rowF N asg can (dl N asg can K) 1 g = [x] := eF
      rw [eF] at h
      refine vc_X6_mend_25 (d := d + 4) ⟨fun _ => h σ3 G3 ?_ rfl (W3.ext (fun i hi => ?_)), fun q => absurd (by rw [nI_0]; decide) q⟩
      · show Seat N K a0 σ3 (updO asg1 x (some g)); exact A3
      · by_cases e : i = j
        · rw [if_pos e, if_neg (by omega), e, Nat.sub_self]; rfl
        · rw [if_neg e, if_pos (by omega)]
    | some g' =>
      unfold leadB at lx
      rw [c] at lx
      have hg' : dl N asg can K g' = some m := by
        have := of_decide_eq_true lx
        simpa using this
      rw [c] at eF
      have eF : rowF N asg can (dl N asg can K) (m + 1) g = x :: rowF N asg can (dl N asg can K) m g' := eF
      rw [eF] at h
      have hg'K : g' < K := A.2.1 x hx g' (by rw [e1]; exact c)
      refine ih g' (j + 1) σ3 (updO asg1 x (some g)) _ hg' hg'K P3 A3 C3 R3 (fun p hp => ?_) W3 (by omega) (fun σ' F' A' l' W' => ?_)
      · unfold updO
        by_cases e : p = x
        · subst e
          rw [if_pos rfl]
          exact Or.inr ⟨⟨g, m + 1, rfl, hg, by omega⟩, g', m, c, hg', Nat.le_refl _⟩
        · rw [if_neg e]
          rcases I p hp with z | ⟨⟨y, v, z1, z2, z3⟩, z, u, z4, z5, z6⟩
          · exact Or.inl z
          · exact Or.inr ⟨⟨y, v, z1, z2, by omega⟩, z, u, z4, z5, by omega⟩
      · refine h σ' (G3.tr F') ?_ (by rw [List.length_cons, l']) ?_
        · show Seat N K a0 σ' (applyRow (updO asg1 x (some g)) (asg1 x) _)
          rw [e1, c]; exact A'
        · rw [show j + (m + 1) = j + 1 + m by omega]
          refine W'.ext (fun i hi => ?_)
          by_cases e : i < j
          · rw [if_pos (by omega), if_neg (by omega), if_pos e]
          · rw [if_neg e]
            by_cases e2 : i = j
            · rw [if_pos (by omega), if_pos e2, e2, Nat.sub_self]; rfl
            · rw [if_neg (by omega), show i - j = (i - (j + 1)) + 1 by omega]; rfl
theorem c_mend {N q K a0 g : Nat} {asg : Nat → Option Nat} {s : Nat → List Int32} {day : Int32} (hP : PicS N q K a0 σ) (hA : Seat N K a0 σ asg) (hs : ∀ a, a < K → StepsR σ (a0 + a) (s a)) (hg : g < K)
    (h : ∀ σ', MF σ σ' → Seat N K a0 σ' (applyRow asg (some g) (mendRow N K asg (canC σ a0 s day) g)) → RW σ' 4 (mendRow N K asg (canC σ a0 s day) g).length (fun i => nI ((mendRow N K asg (canC σ a0 s day) g).getD i 0)) → post none σ') : AMet G l M_X6_mend (d + 6) 0 0 [xR (some (7, 0)), xR (some (2, a0 + g)), xI day] σ post := by
  generalize hcan : canC σ a0 s day = can at h
  refine AMet.of rfl (Nat.le_of_ble_eq_true rfl) (vc_X6_mend (d := d + 5) (c_look hP hs (fun σ1 F1 b1 => ?_)))
  rw [hcan] at b1
  have P1 := F1.pic hP
  have A1 := F1.seat hA
  refine c_measure P1 A1 b1 (fun σ2 F2 R2 => ?_)
  have P2 := F2.pic P1
  have A2 := F2.seat A1
  have C2 : ∀ p, p < N → ∀ a, a < K → jb (gI σ2 6 10 p) (nI a) = can p a := fun p hp a ha => by
    rw [(F2.1 6 (by decide)).2.1]; exact b1 p hp a ha
  have hK := P2.2.2.2.2.2.2.2.1
  refine ⟨P2.1, ?_⟩
  have G3 : MF σ (sI σ2 8 1 4 0) := (F1.pf.mf.tr F2.mf).tr MF.row
  have P3 : PicS N q K a0 (sI σ2 8 1 4 0) := by
    obtain ⟨k1, k2, k3, k4, k5, k6, k7, k8, k9, k10⟩ := P2
    have s' : sameK (fun c => c ≠ 8) σ2 (sI σ2 8 1 4 0) := fun c hc => eqK_sI hc
    have s : sameK (fun c => c = 0 ∨ c = 23) σ2 (sI σ2 8 1 4 0) := s'.sub (fun c hc => by rcases hc with rfl | rfl <;> decide)
    exact ⟨k1.sI, k2.same s, k3, k4, fun p hp => (gI_o (fun e => absurd e.1 (by decide))).trans (k5 p hp), k6, k7.same s, k8, k9, fun a ha => (gI_o (fun e => absurd e.1 (by decide))).trans (k10 a ha)⟩
  have A3 : Seat N K a0 (sI σ2 8 1 4 0) asg := ⟨A2.1, A2.2.1, fun a ha => (gI_o (fun e => absurd e.1 (by decide))).trans (A2.2.2 a ha)⟩
  have C3 : ∀ p, p < N → ∀ a, a < K → jb (gI (sI σ2 8 1 4 0) 6 10 p) (nI a) = can p a := fun p hp a ha => by
    rw [gI_o (fun e => absurd e.1 (by decide))]; exact C2 p hp a ha
  have R3 : RLR K a0 (sI σ2 8 1 4 0) (dl N asg can K) := fun a ha => (gI_o (fun e => absurd e.1 (by decide))).trans (R2 a ha)
  have W3 : RW (sI σ2 8 1 4 0) 4 0 (fun _ => 0) := RW.mk P3.1 (by decide) (by rw [gI_self, nI_0]) (Nat.zero_le _) (fun i hi => absurd hi (Nat.not_lt_zero i))
  rw [R2 g hg]
  unfold mendRow at h
  cases c : dl N asg can K g with
  | none =>
    rw [c] at h
    refine vc_X6_mend_25 (d := d + 5) ⟨fun _ => h _ G3 A3 (W3.ext (fun i hi => absurd hi (Nat.not_lt_zero i))), fun q => absurd (by decide) q⟩
  | some n =>
    rw [c] at h
    have hr := dl_range _ _ _ c
    refine a_mend n g 0 _ asg _ c hg P3 A3 C3 R3 (fun p _ => Or.inl rfl) W3 (by omega) (fun σ' F' A' l' W' => h σ' (G3.tr F') A' ?_)
    show RW σ' 4 (rowF N asg can (dl N asg can K) n g).length _
    rw [l']
    rw [Nat.zero_add] at W'
    exact W'.ext (fun i hi => by rw [if_neg (Nat.not_lt_zero i), Nat.sub_zero])
end MEND2
