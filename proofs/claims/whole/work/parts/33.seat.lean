/-! Seating: the search for room. -/
section SEAT
variable {G : GG} {l : Launch} {d : Nat} {post : Option AVal → AS → Prop} {σ : AS} {kk nn : Nat}
/-- what stands fast while people are seated -/
def LayC (N K a0 : Nat) (can : Nat → Nat → Bool) (w : Nat → Nat) (σ : AS) : Prop := (∀ p, p < N → ∀ a, a < K → jb (gI σ 6 10 p) (nI a) = can p a) ∧ ∀ a, a < K → gI σ 2 4 (a0 + a) = nI (w a) ∧ w a < 2 ^ 31
theorem SF.lay {N K a0 : Nat} {can : Nat → Nat → Bool} {w : Nat → Nat} {σ' : AS} (h : SF σ σ') (k : LayC N K a0 can w σ) : LayC N K a0 can w σ' := ⟨fun p hp a ha => by rw [h.2.2.2.2.2.1]; exact k.1 p hp a ha, fun a ha => by rw [h.2.2.2.1 4 _ (by decide)]; exact k.2 a ha⟩
def TR (K : Nat) (σ : AS) (T : Nat → Bool) : Prop := ∀ a, a < K → jb (gI σ 7 3 0) (nI a) = T a
def capO (N K : Nat) (w : Nat → Nat) (asg : Nat → Option Nat) : Prop := ∀ a, a < K → cA asg a N ≤ w a
/-- the asks tried are full; those not in progress: whoever sits there can go to tried ones alone -/
def InvT (N K lo : Nat) (can : Nat → Nat → Bool) (w : Nat → Nat) (asg : Nat → Option Nat) (T : Nat → Bool) (S : Nat → Prop) : Prop := (∀ a, a < K → T a = true → cA asg a N = w a) ∧ ∀ a, a < K → T a = true → ¬ S a → ∀ p, lo ≤ p → p < N → asg p = some a → ∀ a', a' < K → can p a' = true → T a' = true
/-- a change that moves people from lo on, among asks not in T -/
def ChT (N K lo : Nat) (can : Nat → Nat → Bool) (T : Nat → Bool) (asg asg' : Nat → Option Nat) : Prop := ∀ p, p < N → asg' p = asg p ∨ (lo ≤ p ∧ ∃ a b, asg p = some a ∧ asg' p = some b ∧ a < K ∧ b < K ∧ T a = false ∧ T b = false ∧ can p b = true)
theorem ChT.same {N K lo : Nat} {can : Nat → Nat → Bool} {T : Nat → Bool} {asg asg' : Nat → Option Nat} (h : ChT N K lo can T asg asg') {a : Nat} (ha : T a = true) : cA asg' a N = cA asg a N := by
  refine cA_congr N (fun p hp => ?_)
  rcases h p hp with e | ⟨-, x, y, e1, e2, -, -, t1, t2, -⟩
  · rw [e]
  · rw [e1, e2]
    constructor
    · intro z; cases z; rw [ha] at t2; cases t2
    · intro z; cases z; rw [ha] at t1; cases t1
theorem ChT.rf {N K lo : Nat} {can : Nat → Nat → Bool} {T : Nat → Bool} {asg : Nat → Option Nat} : ChT N K lo can T asg asg := fun _ _ => Or.inl rfl
theorem ChT.mono {N K lo : Nat} {can : Nat → Nat → Bool} {T T' : Nat → Bool} {asg asg' : Nat → Option Nat} (h : ChT N K lo can T' asg asg') (ht : ∀ a, a < K → T a = true → T' a = true) : ChT N K lo can T asg asg' := fun p hp => by
  rcases h p hp with e | ⟨h0, x, y, e1, e2, h1, h2, t1, t2, h3⟩
  · exact Or.inl e
  · refine Or.inr ⟨h0, x, y, e1, e2, h1, h2, ?_, ?_, h3⟩
    · cases c : T x
      · rfl
      · rw [ht x h1 c] at t1; cases t1
    · cases c : T y
      · rfl
      · rw [ht y h2 c] at t2; cases t2
/-- how many asks are tried -/
def tcn (T : Nat → Bool) : Nat → Nat
  | 0 => 0
  | k + 1 => tcn T k + (if T k = true then 1 else 0)
theorem tcn_le (T : Nat → Bool) : ∀ K, tcn T K ≤ K
  | 0 => Nat.le_refl _
  | k + 1 => by
    have := tcn_le T k
    rw [tcn]; split <;> omega
theorem tcn_lt {T : Nat → Bool} {a : Nat} : ∀ K, a < K → T a = false → tcn T K < K
  | 0, h, _ => absurd h (Nat.not_lt_zero a)
  | k + 1, h, e => by
    rw [tcn]
    by_cases q : a = k
    · subst q
      have := tcn_le T a
      rw [e, if_neg (by decide)]; omega
    · have := tcn_lt k (by omega) e
      split <;> omega
theorem tcn_mono {T T' : Nat → Bool} : ∀ K, (∀ a, a < K → T a = true → T' a = true) → tcn T K ≤ tcn T' K
  | 0, _ => Nat.le_refl _
  | k + 1, h => by
    have := tcn_mono k (fun a ha => h a (by omega))
    rw [tcn, tcn]
    by_cases c : T k = true
    · rw [if_pos c, if_pos (h k (by omega) c)]; omega
    · rw [if_neg c]; omega
def setT (T : Nat → Bool) (a : Nat) : Nat → Bool := fun x => T x || decide (x = a)
theorem setT_self {T : Nat → Bool} {a : Nat} : setT T a a = true := by unfold setT; rw [decide_eq_true (rfl : a = a), Bool.or_true]
theorem setT_old {T : Nat → Bool} {a x : Nat} (h : T x = true) : setT T a x = true := by unfold setT; rw [h, Bool.true_or]
theorem setT_inv {T : Nat → Bool} {a x : Nat} (h : setT T a x = true) (hx : x ≠ a) : T x = true := by
  unfold setT at h
  rw [decide_eq_false hx, Bool.or_false] at h
  exact h
theorem tcn_set {T : Nat → Bool} {a : Nat} : ∀ K, a < K → T a = false → tcn (setT T a) K = tcn T K + 1
  | 0, h, _ => absurd h (Nat.not_lt_zero a)
  | k + 1, h, e => by
    rw [tcn, tcn]
    by_cases q : a = k
    · subst q
      have h1 : tcn (setT T a) a = tcn T a := by
        have : ∀ n, n ≤ a → tcn (setT T a) n = tcn T n := by
          intro n
          induction n with
          | zero => intro _; rfl
          | succ n ih =>
            intro hn
            rw [tcn, tcn, ih (by omega)]
            have : setT T a n = T n := by unfold setT; rw [decide_eq_false (by omega), Bool.or_false]
            rw [this]
        exact this a (Nat.le_refl a)
      rw [h1, setT_self, e, if_pos rfl, if_neg (by decide)]
    · have ih := tcn_set (T := T) k (by omega) e
      have : setT T a k = T k := by unfold setT; rw [decide_eq_false (fun z => q z.symm), Bool.or_false]
      rw [ih, this]; omega
/-- the search for room in ask a -/
def MR (G : GG) (l : Launch) (N q K a0 lo : Nat) (ab : Int32) (can : Nat → Nat → Bool) (w : Nat → Nat) (dd : Nat) : Prop := ∀ (a : Nat) (σ : AS) (asg : Nat → Option Nat) (T : Nat → Bool) (S : Nat → Prop) (D : Nat) (post : Option AVal → AS → Prop), a < K → PicS N q K a0 σ → Seat N K a0 σ asg → LayC N K a0 can w σ → TR K σ T → capO N K w asg → InvT N K lo can w asg T S → dd ≤ tcn T K + 1 → 18 - 2 * dd ≤ D →
  (∀ σ' T', SF σ σ' → Seat N K a0 σ' asg → TR K σ' T' → (∀ x, x < K → T x = true → T' x = true) → InvT N K lo can w asg T' S → T' a = true → post (some (xI 0)) σ') →
  (∀ σ' asg', SF σ σ' → Seat N K a0 σ' asg' → capO N K w asg' → ChT N K lo can T asg asg' → cA asg' a N < w a → T a = false → post (some (xI 1)) σ') →
  AMet G l M_X6_makeRoom D 0 0 [xR (some (7, 0)), xR (some (2, a0 + a)), xI ab, xI (nI dd)] σ post
/-- the search for a seat for p -/
def SE (G : GG) (l : Launch) (N q K a0 lo : Nat) (ab : Int32) (can : Nat → Nat → Bool) (w : Nat → Nat) (dd : Nat) : Prop := ∀ (p : Nat) (σ : AS) (asg : Nat → Option Nat) (T : Nat → Bool) (S : Nat → Prop) (D : Nat) (post : Option AVal → AS → Prop), p < N → (∀ a, asg p = some a → T a = true) → PicS N q K a0 σ → Seat N K a0 σ asg → LayC N K a0 can w σ → TR K σ T → capO N K w asg → InvT N K lo can w asg T S → dd ≤ tcn T K → 17 - 2 * dd ≤ D →
  (∀ σ' T', SF σ σ' → Seat N K a0 σ' asg → TR K σ' T' → (∀ x, x < K → T x = true → T' x = true) → InvT N K lo can w asg T' S → (∀ a, a < K → can p a = true → T' a = true) → post (some (xI 0)) σ') →
  (∀ σ' asg1 b T', SF σ σ' → (∀ x, x < K → T x = true → T' x = true) → InvT N K lo can w asg T' S → (∀ a, a < b → can p a = true → T' a = true) → Seat N K a0 σ' (updO asg1 p (some b)) → capO N K w asg1 → ChT N K lo can T' asg asg1 → b < K → can p b = true → T' b = false → cA asg1 b N < w b → asg1 p = asg p → post (some (xI 1)) σ') →
  AMet G l M_X6_seatElsewhere D 0 0 [xR (some (7, 0)), xR (some (6, p)), xI ab, xI (nI dd)] σ post
theorem se_of {N q K a0 lo : Nat} {ab : Int32} {can : Nat → Nat → Bool} {w : Nat → Nat} {dd : Nat} (hdd : dd ≤ 6) (ih : MR G l N q K a0 lo ab can w (dd + 1)) : SE G l N q K a0 lo ab can w dd := by
  intro p σ asg T S D post hp hpT hP hA hL hT hc hI hdt hD k0 k1
  obtain ⟨d, rfl⟩ : ∃ d, D = d + 4 := ⟨D - 4, by omega⟩
  have hK := hP.2.2.2.2.2.2.2.1
  have loop : ∀ (f v : Nat) (σ1 : AS) (T1 : Nat → Bool), K - v = f → v ≤ K → SF σ σ1 → Seat N K a0 σ1 asg → TR K σ1 T1 → (∀ x, x < K → T x = true → T1 x = true) → InvT N K lo can w asg T1 S → (∀ a, a < v → can p a = true → T1 a = true) → AW G l M_X6_seatElsewhere (d + 4) post σ1 0 0 3 [some (xR (some (7, 0))), some (xR (some (6, p))), some (xI ab), some (xI (nI dd)), some (xI (nI v)), none] [] := by
    intro f
    induction f with
    | zero =>
      intro v σ1 T1 hf hv F A1 R1 m1 I1 b1
      have P1 := F.pic hP
      have e : v = K := by omega
      subst e
      exact vc_X6_seatElsewhere_3 (d := d + 3) ⟨q, P1.2.2.2.2.2.1, c_size P1.2.2.2.2.2.2.1 ⟨fun _ => k0 σ1 T1 F A1 R1 m1 I1 (fun a ha hc' => b1 a ha hc'), fun c => absurd (nI_le (Nat.le_refl v) (by omega)) c⟩⟩
    | succ f ihf =>
      intro v σ1 T1 hf hv F A1 R1 m1 I1 b1
      have P1 := F.pic hP
      have L1 := F.lay hL
      have hvK : v < K := by omega
      refine vc_X6_seatElsewhere_3 (d := d + 3) ⟨q, P1.2.2.2.2.2.1, c_size P1.2.2.2.2.2.2.1 ⟨fun c => absurd ((nI_leI (by omega) (by omega)).mp c) (by omega), fun _ => ⟨q, P1.2.2.2.2.2.1, c_get P1.2.2.2.2.2.2.1 hvK ⟨a0 + v, rfl, c_canBeIn ?_⟩⟩⟩⟩
      rw [P1.2.2.2.2.2.2.2.2.2 v hvK, L1.1 p hp v hvK]
      refine ⟨fun c => ?_, fun c => ?_⟩
      · rw [nI_1]
        refine ihf (v + 1) σ1 T1 (by omega) (by omega) F A1 R1 m1 I1 (fun a ha hc' => ?_)
        by_cases e : a = v
        · subst e; rw [bI_eq.mp c] at hc'; cases hc'
        · exact b1 a (by omega) hc'
      · have hcan := bI_ne.mp c
        rw [nI_1]
        have := tcn_mono K m1
        refine ih v σ1 asg T1 S (d + 3) _ hvK P1 A1 L1 R1 hc I1 (by omega) (by omega) (fun σ2 T2 F2 A2 R2 m2 I2 z2 => ⟨fun _ => ?_, fun c => absurd rfl c⟩) (fun σ2 asg2 F2 A2 c2 h2 l2 t2 => ⟨fun c => absurd c (by decide), fun _ => ?_⟩)
        · rw [nI_1]
          refine ihf (v + 1) σ2 T2 (by omega) (by omega) (F.tr F2) A2 R2 (fun x hx z => m2 x hx (m1 x hx z)) I2 (fun a ha hc' => ?_)
          by_cases e : a = v
          · subst e; exact z2
          · exact m2 a (by omega) (b1 a (by omega) hc')
        · have P2 := F2.pic P1
          have ep : asg2 p = asg p := by
            rcases h2 p hp with e | ⟨-, x, y, e1, -, hx, -, t1, -⟩
            · exact e
            · rw [m1 x hx (hpT x e1)] at t1; cases t1
          refine c_move (some v) P2 A2 hp (fun a e => by cases e; exact hvK) (fun σ3 F3 T3 A3 => ?_)
          exact k1 σ3 asg2 v T1 ((F.tr F2).tr F3) m1 I1 b1 A3 c2 h2 hvK hcan t2 l2 ep
  refine AMet.of rfl (Nat.le_of_ble_eq_true rfl) (vc_X6_seatElsewhere (d := d + 3) ?_)
  have k := loop K 0 σ T rfl (Nat.zero_le _) SF.rf hA hT (fun _ _ z => z) hI (fun a ha => absurd ha (Nat.not_lt_zero a))
  rw [nI_0] at k
  exact k
theorem mr_of {N q K a0 lo : Nat} {ab : Int32} {can : Nat → Nat → Bool} {w : Nat → Nat} {dd : Nat} (hab : (ab = -1 ∧ lo = 0) ∨ ∃ p0, p0 < N ∧ ab = nI p0 ∧ lo = p0 + 1) (hd1 : 1 ≤ dd) (hdd : dd ≤ 7) (ih : dd ≤ 6 → SE G l N q K a0 lo ab can w dd) : MR G l N q K a0 lo ab can w dd := by
  intro a σ asg T S D post ha hP hA hL hT hc hI hdt hD k0 k1
  obtain ⟨d, rfl⟩ : ∃ d, D = d + 4 := ⟨D - 4, by omega⟩
  have hN := hP.2.2.1
  have hK := hP.2.2.2.2.2.2.2.1
  have hle := cA_le (asg := asg) (a := a) N
  have hw := hL.2 a ha
  have loop : cA asg a N = w a → T a = false → dd ≤ 6 → ∀ (f v : Nat) (σ1 : AS) (T1 : Nat → Bool), N - v = f → (v ≤ N ∨ f = 0) → v < 100 → SF σ σ1 → Seat N K a0 σ1 asg → TR K σ1 T1 → (∀ x, x < K → setT T a x = true → T1 x = true) → InvT N K lo can w asg T1 (fun x => S x ∨ x = a) → (∀ p, lo ≤ p → p < v → asg p = some a → ∀ a', a' < K → can p a' = true → T1 a' = true) → lo ≤ v → AW G l M_X6_makeRoom (d + 4) post σ1 0 0 64 [some (xR (some (7, 0))), some (xR (some (2, a0 + a))), some (xI ab), some (xI (nI dd)), some (xI (nI v)), none] [] := by
    intro hfull hTa hd6 f
    induction f with
    | zero =>
      intro v σ1 T1 hf hv hv100 F A1 R1 m1 I1 b1 hlo
      have P1 := F.pic hP
      refine vc_X6_makeRoom_64 (d := d + 3) P1.1 (c_size P1.2.1 ⟨P1.1, fun _ => k0 σ1 T1 F A1 R1 (fun x hx z => m1 x hx (setT_old z)) ⟨I1.1, fun x hx tx sx p hlp hp e a' ha' hc' => ?_⟩ (m1 a ha setT_self), fun c => absurd (nI_le (show N ≤ v by omega) (by omega)) c⟩)
      by_cases e2 : x = a
      · subst e2; exact b1 p hlp (by omega) e a' ha' hc'
      · exact I1.2 x hx tx (fun z => z.elim sx e2) p hlp hp e a' ha' hc'
    | succ f ihf =>
      intro v σ1 T1 hf hv hv100 F A1 R1 m1 I1 b1 hlo
      have P1 := F.pic hP
      have hvN : v < N := by omega
      refine vc_X6_makeRoom_64 (d := d + 3) P1.1 (c_size P1.2.1 ⟨P1.1, fun c => absurd ((nI_leI (by omega) (by omega)).mp c) (by omega), fun _ => c_get P1.2.1 hvN ⟨v, rfl, fun n c => ?_, fun c => ?_, fun c => ?_⟩⟩)
      · rw [A1.1 v hvN] at c
        cases e : asg v with
        | none => rw [e] at c; cases c
        | some a1 => rw [e] at c; cases c; show (2 : Nat) ≠ 31; decide
      · rw [nI_1]
        refine ihf (v + 1) σ1 T1 (by omega) (by omega) (by omega) F A1 R1 m1 I1 (fun p hlp hp e => ?_) (by omega)
        by_cases e2 : p = v
        · subst e2
          rw [A1.1 p hvN, e] at c
          exact absurd rfl c
        · exact b1 p hlp (by omega) e
      · have hv : asg v = some a := by
          rw [A1.1 v hvN] at c
          cases q : asg v with
          | none => rw [q] at c; cases c
          | some x =>
            rw [q] at c
            have := (map_ne (x := x) (y := a)).mp c
            rw [this]
        have hm := tcn_mono K m1
        have hs := tcn_set K ha hTa
        refine ih hd6 v σ1 asg T1 _ (d + 3) _ hvN (fun x e => ?_) P1 A1 (F.lay hL) R1 hc I1 (by omega) (by omega) (fun σ2 T2 F2 A2 R2 m2 I2 z2 => ⟨fun _ => ?_, fun c => absurd rfl c⟩) (fun σ2 asg1 b T2 F2 m2 I2 z2 A2 c2 h2 hb hcb tb lb ep => ⟨fun c => absurd c (by decide), fun _ => ?_⟩)
        · rw [hv] at e; cases e; exact m1 a ha setT_self
        · rw [nI_1]
          refine ihf (v + 1) σ2 T2 (by omega) (by omega) (by omega) (F.tr F2) A2 R2 (fun x hx z => m2 x hx (m1 x hx z)) I2 (fun p hlp hp e => ?_) (by omega)
          by_cases e2 : p = v
          · subst e2; exact z2
          · exact fun a' ha' hc' => m2 a' ha' (b1 p hlp (by omega) e a' ha' hc')
        · have ta : T2 a = true := m2 a ha (m1 a ha setT_self)
          have hba : b ≠ a := fun e => by rw [e, ta] at tb; cases tb
          have eA : cA asg1 a N = cA asg a N := h2.same ta
          have tot : ∀ x, x < K → T x = true → T2 x = true := fun x hx z => m2 x hx (m1 x hx (setT_old z))
          have f1 : ∀ x, x < K → T2 x = false → T x = false := fun x hx z => by
            cases q : T x
            · rfl
            · rw [tot x hx q] at z; cases z
          refine k1 σ2 _ (F.tr F2) A2 (fun x hx => ?_) (fun p hp => ?_) ?_ hTa
          · have k := cA_upd (asg := asg1) (a := x) (p := v) (v := some b) N hvN
            rw [ep, hv] at k
            have cx := c2 x hx
            by_cases e1 : x = b
            · subst e1
              rw [if_neg (by simpa using fun z => hba z.symm), if_pos rfl] at k
              omega
            · rw [if_neg (c := some b = some x) (by simpa using fun z => e1 z.symm)] at k
              omega
          · unfold updO
            by_cases e1 : p = v
            · rw [if_pos e1]
              subst e1
              exact Or.inr ⟨hlo, a, b, hv, rfl, ha, hb, hTa, f1 b hb tb, hcb⟩
            · rw [if_neg e1]
              exact (ChT.mono h2 tot) p hp
          · have k := cA_upd (asg := asg1) (a := a) (p := v) (v := some b) N hvN
            rw [ep, hv, if_pos rfl, if_neg (by simpa using hba)] at k
            have := cA_pos (asg := asg) N hvN hv
            omega
  refine AMet.of rfl (Nat.le_of_ble_eq_true rfl) (vc_X6_makeRoom (d := d + 3) ?_)
  rw [hw.1, hA.2.2 a ha]
  refine ⟨fun c => ⟨fun t => ?_, fun t => ⟨fun c6 => ?_, fun c6 => ?_⟩⟩, fun c => ?_⟩
  · have hle2 := (nI_leI hw.2 (by omega)).mp c
    have hcap := hc a ha
    have ta : T a = true := by
      rw [← hT a ha]
      unfold jb
      rw [hP.2.2.2.2.2.2.2.2.2 a ha] at t
      rw [if_pos t]
    exact k0 σ T SF.rf hA hT (fun _ _ z => z) hI ta
  · have hle2 := (nI_leI hw.2 (by omega)).mp c
    have hcap := hc a ha
    have hfull : cA asg a N = w a := by omega
    have ta : T a = false := by
      rw [← hT a ha]
      unfold jb
      rw [hP.2.2.2.2.2.2.2.2.2 a ha] at t
      rw [if_neg t]
    have hd6 : dd ≤ 6 := (nI_leI (b := 6) (by omega) (by decide)).mp c6
    have A1 : Seat N K a0 (sI σ 7 3 0 (gI σ 7 3 0 ||| (1 <<< (gI σ 2 0 (a0 + a) &&& 31)))) asg := ⟨hA.1, hA.2.1, fun x hx => by rw [gI_sI, if_neg (fun e => absurd e.1 (by decide))]; exact hA.2.2 x hx⟩
    have R1 : TR K (sI σ 7 3 0 (gI σ 7 3 0 ||| (1 <<< (gI σ 2 0 (a0 + a) &&& 31)))) (setT T a) := fun x hx => by
      rw [gI_self, hP.2.2.2.2.2.2.2.2.2 a ha, jb_set _ (by omega) (by omega), hT x hx]; rfl
    have I1 : InvT N K lo can w asg (setT T a) (fun x => S x ∨ x = a) := ⟨fun x hx z => by
      by_cases e : x = a
      · subst e; exact hfull
      · exact hI.1 x hx (setT_inv z e), fun x hx z s p hlp hp e a' ha' hc' => setT_old (hI.2 x hx (setT_inv z (fun q => s (Or.inr q))) (fun q => s (Or.inl q)) p hlp hp e a' ha' hc')⟩
    rcases hab with ⟨rfl, rfl⟩ | ⟨p0, hp0, rfl, rfl⟩
    · refine ⟨fun c0 => absurd c0 (by decide), fun _ => ?_⟩
      have k := loop hfull ta hd6 N 0 _ (setT T a) rfl (Or.inl (Nat.zero_le _)) (by decide) SF.setT A1 R1 (fun _ _ z => z) I1 (fun p _ hp => absurd hp (Nat.not_lt_zero p)) (Nat.le_refl 0)
      rw [nI_0] at k
      exact k
    · refine ⟨fun _ => ?_, fun c0 => absurd (nI_pos' (by omega)) c0⟩
      rw [nI_1]
      exact loop hfull ta hd6 (N - (p0 + 1)) (p0 + 1) _ (setT T a) rfl (by omega) (by omega) SF.setT A1 R1 (fun _ _ z => z) I1 (fun p h1 h2 => absurd h1 (by omega)) (Nat.le_refl _)
  · have hle2 := (nI_leI hw.2 (by omega)).mp c
    have ta : T a = false := by
      rw [← hT a ha]
      unfold jb
      rw [hP.2.2.2.2.2.2.2.2.2 a ha] at t
      rw [if_neg t]
    have := tcn_lt K ha ta
    exact absurd (nI_le (show dd ≤ 6 by omega) (by decide)) c6
  · have hlt : cA asg a N < w a := Nat.lt_of_not_le fun q => c (nI_le q (by omega))
    have ta : T a = false := by
      cases q : T a
      · rfl
      · have := hI.1 a ha q
        omega
    exact k1 σ asg SF.rf hA hc ChT.rf hlt ta
theorem se_mr {N q K a0 lo : Nat} {ab : Int32} {can : Nat → Nat → Bool} {w : Nat → Nat} (hab : (ab = -1 ∧ lo = 0) ∨ ∃ p0, p0 < N ∧ ab = nI p0 ∧ lo = p0 + 1) : ∀ r dd, r + dd = 7 → (1 ≤ dd → MR G l N q K a0 lo ab can w dd) ∧ (dd ≤ 6 → SE G l N q K a0 lo ab can w dd)
  | 0, dd, h => ⟨fun h1 => mr_of hab h1 (by omega) (fun h6 => absurd h6 (by omega)), fun h6 => absurd h6 (by omega)⟩
  | r + 1, dd, h => by
    have ih : (1 ≤ dd + 1 → MR G l N q K a0 lo ab can w (dd + 1)) ∧ (dd + 1 ≤ 6 → SE G l N q K a0 lo ab can w (dd + 1)) := se_mr hab r (dd + 1) (by omega)
    have s := se_of (dd := dd) (by omega) (ih.1 (by omega))
    exact ⟨fun h1 => mr_of hab h1 (by omega) (fun _ => s), fun _ => s⟩
end SEAT
