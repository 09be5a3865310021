/-! A day is stepped. -/
section STEP
variable {G : GG} {l : Launch} {d : Nat} {post : Option AVal → AS → Prop} {σ : AS} {kk nn : Nat}
/-- the k-th of those called -/
def tpF (asg : Nat → Option Nat) (N k : Nat) : Nat := (leastP (fun p => (asg p).isSome && decide (cAll asg p = k)) N).getD 0
theorem cAll_mono {asg : Nat → Option Nat} {p : Nat} : ∀ n, p ≤ n → cAll asg p ≤ cAll asg n
  | 0, h => by
    have : p = 0 := by omega
    subst this; exact Nat.le_refl _
  | n + 1, h => by
    by_cases e : p = n + 1
    · rw [e]; exact Nat.le_refl _
    · have := cAll_mono (asg := asg) (p := p) n (by omega)
      rw [cAll]; omega
theorem cAll_ex {asg : Nat → Option Nat} {k : Nat} : ∀ n, k < cAll asg n → ∃ p, p < n ∧ asg p ≠ none ∧ cAll asg p = k
  | 0, h => absurd h (Nat.not_lt_zero k)
  | n + 1, h => by
    rw [cAll] at h
    by_cases q : k < cAll asg n
    · obtain ⟨p, h1, h2⟩ := cAll_ex n q
      exact ⟨p, by omega, h2⟩
    · by_cases e : asg n = none
      · rw [if_pos e] at h; omega
      · rw [if_neg e] at h
        exact ⟨n, Nat.lt_succ_self n, e, by omega⟩
theorem cAll_inj {asg : Nat → Option Nat} {p q : Nat} (hp : asg p ≠ none) (hq : asg q ≠ none) (e : cAll asg p = cAll asg q) : p = q := by
  rcases Nat.lt_trichotomy p q with h | h | h
  · have := cAll_lt q h hp; omega
  · exact h
  · have := cAll_lt p h hq; omega
theorem tpF_of {asg : Nat → Option Nat} {N p : Nat} (hp : p < N) (hn : asg p ≠ none) : tpF asg N (cAll asg p) = p := by
  unfold tpF
  rw [leastP_some (x := p) N hp (by cases h : asg p with | none => exact absurd h hn | some a => simp) (fun q hq => by
    cases h : asg q with
    | none => rfl
    | some a =>
      have := cAll_lt (asg := asg) p hq (by rw [h]; simp)
      simp; omega)]
  rfl
theorem tpF_spec {asg : Nat → Option Nat} {N k : Nat} (hk : k < cAll asg N) : tpF asg N k < N ∧ asg (tpF asg N k) ≠ none ∧ cAll asg (tpF asg N k) = k := by
  obtain ⟨p, h1, h2, h3⟩ := cAll_ex N hk
  have e := tpF_of h1 h2
  rw [h3] at e
  rw [e]; exact ⟨h1, h2, h3⟩
def akF (asg : Nat → Option Nat) (p : Nat) : Nat := (asg p).getD 0
theorem c_sendAll {t0 m R n a0 A : Nat} {e tp ak ax : Nat → Nat} {P S : Nat → Int32} {day : Int32} (hS : St σ) (hW : LW σ) (h5 : 5 < cnt σ 0) (hA1 : AL σ 1 A (fun g => (1, ax g))) (hA3 : AL σ 3 m (fun k => (11, t0 + k))) (hR2 : RW σ 2 n P) (hR3 : RW σ 3 n S) (hA5 : AL σ 5 R (fun i => (11, e i)))
    (hwho : ∀ k, k < m → gR σ 11 0 (t0 + k) = some (6, tp k)) (hask : ∀ k, k < m → gR σ 11 2 (t0 + k) = some (2, a0 + ak k)) (hday : ∀ k, k < m → gI σ 11 1 (t0 + k) = day) (hinj : ∀ i j, i < m → j < m → tp i = tp j → i = j) (hn : n + m ≤ 2600) (hR : R + m ≤ 2400) (hkk : m ≤ kk) (hnn : 16840 ≤ nn)
    (h : ∀ σ', MidS σ σ' t0 m R n e tp ak a0 P S day (if A = 0 then none else some (1, ax (A - 1))) → post (some (xI (lastS (fun k => gI σ 2 7 (a0 + ak k) + gI σ 2 3 (a0 + ak k)) m))) σ') : AMet G l M_X11_sendAll (d + 8) kk nn [xR (some (12, 0))] σ post := by
  have hA := hA1.n_lt
  have M0 : ∀ ag, MidS σ σ t0 0 R n e tp ak a0 P S day ag := fun ag => ⟨NF.rf, fun _ _ _ => rfl, fun _ _ => ⟨fun _ => rfl, fun _ => rfl⟩, fun j hj => absurd hj (Nat.not_lt_zero j), hR2.fits (fun i hi => by unfold catN; rw [if_pos (by omega)]), hR3.fits (fun i hi => by unfold catN; rw [if_pos (by omega)]), by
    obtain ⟨y, b1, b2, b3, b4, b5, b6⟩ := hA5
    exact ⟨y, b1, b2, b3, b4, fun i hi => (b5 i hi).trans (by show some ((11 : Nat), e i) = some (11, if i < R then e i else t0 + (i - R)); rw [if_pos (by omega)]), b6⟩⟩
  refine AMet.of rfl (Nat.le_of_ble_eq_true rfl) (vc_X11_sendAll (d := d + 7) hS (c_isEmpty hA1 ⟨hS, fun c => ?_, fun c => ?_⟩))
  · have hA0 : A ≠ 0 := fun z => by rw [if_pos z] at c; exact absurd c (by decide)
    obtain ⟨A', rfl⟩ : ∃ A', A = A' + 1 := ⟨A - 1, by omega⟩
    rw [if_neg hA0] at h
    refine c_size hA1 ?_
    show AMet G l M_Jx4a65c_get_915e3 (d + 7) 0 0 [xR (some (0, 1)), xI (nI (A' + 1) - 1)] σ _
    rw [nI_pred]
    refine c_get hA1 (Nat.lt_succ_self A') ⟨ax A', rfl, ?_⟩
    have k := a_sendAll (G := G) (l := l) (d := d) (post := post) hS hW h5 hA3 hR2 hR3 hA5 hwho hask hday hinj hn hR (fun x hx => by cases hx; exact ⟨_, rfl⟩) h m 0 σ kk nn rfl (Nat.zero_le _) (M0 _) (by omega) (by omega)
    rw [nI_0] at k
    exact k
  · have hA0 : A = 0 := by
      by_cases z : A = 0
      · exact z
      · rw [if_neg z] at c; exact absurd rfl c
    rw [if_pos hA0] at h
    have k := a_sendAll (G := G) (l := l) (d := d) (post := post) hS hW h5 hA3 hR2 hR3 hA5 hwho hask hday hinj hn hR (fun x hx => by cases hx) h m 0 σ kk nn rfl (Nat.zero_le _) (M0 _) (by omega) (by omega)
    rw [nI_0] at k
    exact k
/-- what starting with other asks leaves alone -/
theorem c_startWith {N q K a0 y : Nat} {asg : Nat → Option Nat} (hP : PicS N q K a0 σ) (hA : Seat N K a0 σ asg) (h : ∀ σ', SF σ σ' → Seat N K a0 σ' (fun _ => none) → post none (sR σ' 7 0 0 (some (0, y)))) : AMet G l M_X6_startWith (d + 5) 0 0 [xR (some (7, 0)), xR (some (0, y))] σ post :=
  AMet.of rfl (Nat.le_of_ble_eq_true rfl) (vc_X6_startWith (d := d + 4) (c_dismiss hP hA (fun σ' F _ A => h σ' F A)))
/-- a day's step leaves so much alone -/
def StF (σ σ' : AS) : Prop := sameK (fun c => c ≠ 0 ∧ c ≠ 2 ∧ c ≠ 6 ∧ c ≠ 7 ∧ c ≠ 8 ∧ c ≠ 11 ∧ c ≠ 12 ∧ c ≠ 20 ∧ c ≠ 23) σ σ' ∧ (∀ f i, f ≠ 7 → f ≠ 8 → f ≠ 9 → gI σ' 6 f i = gI σ 6 f i) ∧ (∀ r, r ≠ 2 → r ≠ 3 → gI σ' 8 1 r = gI σ 8 1 r) ∧ (∀ a j, a ≠ 2 → a ≠ 3 → a ≠ 5 → gA σ' 20 a j = gA σ 20 a j) ∧ (∀ i, i < cnt σ 11 → (∀ f, gI σ' 11 f i = gI σ 11 f i) ∧ ∀ f, gR σ' 11 f i = gR σ 11 f i) ∧ cnt σ' 0 = cnt σ 0 + 1 ∧ (∀ q n e, q ≠ 3 → q ≠ 4 → q ≠ 5 → q < cnt σ 0 → AL σ q n e → AL σ' q n e) ∧ (∀ q, q ≠ 3 → q ≠ 4 → q ≠ 5 → q < cnt σ 0 → lcap σ' q = lcap σ q) ∧ cnt σ' 2 = cnt σ 2 ∧ cnt σ' 6 = cnt σ 6
/-- when p comes -/
def comeA (σ : AS) (a0 : Nat) (asg : Nat → Option Nat) (seed day : Int32) (p : Nat) : Int32 := match asg p with
  | some a => gI σ 2 2 (a0 + a) + late seed day p
  | none => 0
def stT (σ : AS) (a0 dr : Nat) (asg : Nat → Option Nat) (seed day : Int32) (ord : Nat → Nat) : Nat → Int32 := tSj dr (fun j => comeA σ a0 asg seed day (ord j)) (fun j => gI σ 6 5 (ord j))
def stB (σ : AS) (a0 dr N : Nat) (asg : Nat → Option Nat) (seed day : Int32) (ord : Nat → Nat) (a : Nat) : Int32 := bgS (stT σ a0 dr asg seed day ord) (fun j => akF asg (ord j)) a (cAll asg N)
end STEP
