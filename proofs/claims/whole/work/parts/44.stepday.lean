/-! The day's step, whole. -/
section STEPDAY
variable {G : GG} {l : Launch} {d : Nat} {post : Option AVal → AS → Prop} {σ : AS} {kk nn : Nat}
theorem dfS_congr {dr : Nat} {co sl co' sl' : Nat → Int32} : ∀ j, (∀ i, i < j → co i = co' i ∧ sl i = sl' i) → dfS dr co sl j = dfS dr co' sl' j
  | 0, _ => rfl
  | j + 1, h => by
    have e := dfS_congr (dr := dr) j (fun i hi => h i (by omega))
    rw [dfS, dfS, e, (h j (by omega)).1, (h j (by omega)).2]
theorem tSj_congr {dr : Nat} {co sl co' sl' : Nat → Int32} {j : Nat} (h : ∀ i, i ≤ j → co i = co' i ∧ sl i = sl' i) : tSj dr co sl j = tSj dr co' sl' j := by
  unfold tSj
  rw [dfS_congr j (fun i hi => h i (by omega)), (h j (Nat.le_refl j)).1, (h j (Nat.le_refl j)).2]
theorem bgS_congr {t t' : Nat → Int32} {ak : Nat → Nat} {a : Nat} : ∀ m, (∀ j, j < m → t j = t' j) → bgS t ak a m = bgS t' ak a m
  | 0, _ => rfl
  | m + 1, h => by rw [bgS, bgS, bgS_congr m (fun j hj => h j (by omega)), h m (by omega)]
theorem lastS_congr {t t' : Nat → Int32} : ∀ m, (∀ j, j < m → t j = t' j) → lastS t m = lastS t' m
  | 0, _ => rfl
  | m + 1, h => by rw [lastS, lastS, lastS_congr m (fun j hj => h j (by omega)), h m (by omega)]
theorem PicS.of {N q K a0 : Nat} {σ' : AS} (k : PicS N q K a0 σ) (hS : St σ') (h0 : AL σ' 0 N (fun p => (6, p))) (h6 : cnt σ' 6 = cnt σ 6) (g6 : ∀ p, gI σ' 6 0 p = gI σ 6 0 p) (r7 : gR σ' 7 0 0 = gR σ 7 0 0) (hq : AL σ' q K (fun a => (2, a0 + a))) (c2 : cnt σ' 2 = cnt σ 2) (g2 : ∀ x, gI σ' 2 0 x = gI σ 2 0 x) : PicS N q K a0 σ' :=
  ⟨hS, h0, k.2.2.1, h6.trans k.2.2.2.1, fun p hp => (g6 p).trans (k.2.2.2.2.1 p hp), r7.trans k.2.2.2.2.2.1, hq, k.2.2.2.2.2.2.2.1, by rw [c2]; exact k.2.2.2.2.2.2.2.2.1, fun a ha => (g2 _).trans (k.2.2.2.2.2.2.2.2.2 a ha)⟩
theorem AL.fits {q n : Nat} {e e' : Nat → Nm} (h : AL σ q n e) (k : ∀ i, i < n → e i = e' i) : AL σ q n e' := by
  obtain ⟨y, b1, b2, b3, b4, b5, b6⟩ := h
  exact ⟨y, b1, b2, b3, b4, fun i hi => (b5 i hi).trans (congrArg some (k i hi)), b6⟩
theorem RW.mono20 {r n : Nat} {b : Nat → Int32} {σ' : AS} (h : RW σ r n b) (F : DF σ σ') (hr : ∀ a, gR σ 8 0 r = some (20, a) → a ≠ 5) : RW σ' r n b := by
  obtain ⟨a, h1, h2, h3, h4, h5⟩ := h
  exact ⟨a, (F.2.2.1 8 0 r).trans h1, ((F.1 8 (by decide)).2.1 1 r).trans h2, by rw [F.2.2.2.1]; exact h3, by rw [F.2.2.2.1]; exact h4, fun i hi => (F.2.2.2.2.2.2 a i (hr a h1)).trans (h5 i hi)⟩
/-- what stands behind a day -/
def DayR (σ σ' : AS) (N K a0 dr n A : Nat) (asg : Nat → Option Nat) (ax : Nat → Nat) (P S : Nat → Int32) (seed day : Int32) (ord : Nat → Nat) : Prop := StF σ σ' ∧ PicS N (cnt σ 0) 0 0 σ' ∧ Seat N 0 0 σ' (fun _ => none) ∧ LW σ' ∧ OrdR asg (comeA σ a0 asg seed day) N (cAll asg N) ord ∧
  (∀ p, p < N → ∀ a, asg p = some a → gR σ' 11 0 (cnt σ 11 + cAll asg p) = some (6, p) ∧ gI σ' 11 1 (cnt σ 11 + cAll asg p) = day ∧ gI σ' 11 3 (cnt σ 11 + cAll asg p) = gI σ 2 1 (a0 + a) ∧ gI σ' 11 4 (cnt σ 11 + cAll asg p) = comeA σ a0 asg seed day p ∧ gI σ' 11 6 (cnt σ 11 + cAll asg p) = stB σ a0 dr N asg seed day ord a ∧ gI σ' 11 7 (cnt σ 11 + cAll asg p) = stB σ a0 dr N asg seed day ord a + gI σ 2 3 (a0 + a) ∧ gR σ' 11 8 (cnt σ 11 + cAll asg p) = (if A = 0 then none else some (1, ax (A - 1))) ∧ gI σ' 6 7 p = gI σ 6 7 p + 1 ∧ gI σ' 6 8 p = 1440 * day + (stB σ a0 dr N asg seed day ord a + gI σ 2 3 (a0 + a)) + 660 ∧ gI σ' 6 9 p = gI σ 6 9 p ||| (1 <<< (gI σ 2 1 (a0 + a) &&& 31))) ∧
  (∀ j, j < cAll asg N → gI σ' 11 5 (cnt σ 11 + cAll asg (ord j)) = stT σ a0 dr asg seed day ord j) ∧ (∀ p, p < N → asg p = none → ∀ f, gI σ' 6 f p = gI σ 6 f p) ∧
  RW σ' 2 (n + cAll asg N) (catN P n (fun k => nI (tpF asg N k))) ∧ RW σ' 3 (n + cAll asg N) (catN S n (fun k => gI σ 2 1 (a0 + akF asg (tpF asg N k)))) ∧ AL σ' 5 (cnt σ 11 + cAll asg N) (fun i => (11, i)) ∧ cnt σ' 11 = cnt σ 11 + cAll asg N
theorem a_day {N q K a0 dr n A : Nat} {asg : Nat → Option Nat} {ax : Nat → Nat} {P S : Nat → Int32} {seed day : Int32} (hP : PicS N q K a0 σ) (hA : Seat N K a0 σ asg) (hW : LW σ) (h5 : 5 < cnt σ 0) (hq : q ≠ 3 ∧ q ≠ 4 ∧ q ≠ 5) (hq0 : q < cnt σ 0) (hA1 : AL σ 1 A (fun g => (1, ax g))) (hA5 : AL σ 5 (cnt σ 11) (fun i => (11, i))) (hR2 : RW σ 2 n P) (hR3 : RW σ 3 n S) (hb : ∀ a, a < K → gI σ 2 7 (a0 + a) = 0) (h1 : 1 ≤ dr) (h5' : dr ≤ 5) (hn : n + cAll asg N ≤ 2600) (hR : cnt σ 11 + cAll asg N ≤ 2400) (hkk : 161 ≤ kk) (hnn : 22043 ≤ nn)
    (h : ∀ σ' ord, DayR σ (sI σ' 12 10 0 (gI σ' 12 10 0 + 1)) N K a0 dr n A asg ax P S seed day ord → gI σ' 12 10 0 = gI σ 12 10 0 → post (some (xI (lastS (fun k => stB σ a0 dr N asg seed day ord (akF asg (tpF asg N k)) + gI σ 2 3 (a0 + akF asg (tpF asg N k))) (cAll asg N)))) (sI σ' 12 10 0 (gI σ' 12 10 0 + 1))) :
    (∃ mc8 ms9 kk6 nn7 : Nat, (kk = kk6 + mc8 ∧ nn = nn7 + ms9 ∧ (AMet G l M_X3_comeAll (d + 9) mc8 ms9 [xR (some (4, 0)), xR (some (0, 0)), xI seed, xI day] σ (retV (fun σ5 => (St σ5 ∧ (AMet G l M_X3_dressAll (d + 9) 0 0 [xR (some (4, 0)), xI (nI dr)] σ5 (retV (fun σ10 => (∃ mc14 ms15 kk12 nn13 : Nat, (kk6 = kk12 + mc14 ∧ nn7 = nn13 + ms15 ∧ (AMet G l M_X11_sendAll (d + 9) mc14 ms15 [xR (some (12, 0))] σ10 (retI (fun x16 σ11 => (St σ11 ∧ ((∃ kk17 nn18 : Nat, (kk12 = kk17 + 1 ∧ nn13 = nn18 + 3 ∧ (AMet G l M_Jx4a65c_init_da8c8 (d + 9) 0 0 [xR (some (0, (cnt σ11 0)))] (nO σ11 0) (retV (fun σ19 => AMet G l M_X6_startWith (d + 9) 0 0 [xR (some (7, 0)), xR (some (0, (cnt σ11 0)))] σ19 (retV (fun σ20 => post (some (xI x16)) (sI σ20 12 10 0 ((gI σ20 12 10 0) + 1))))))))))))))))))))))))) := by
  have hN := hP.2.2.1
  have hcN := cAll_le (asg := asg) N
  refine ⟨120, 5200, kk - 120, nn - 5200, by omega, by omega, ?_⟩
  obtain ⟨m3, e3, h3⟩ := hW.1 3 (by omega)
  obtain ⟨m4, e4, h4⟩ := hW.1 4 (by omega)
  refine c_comeAll (d := d + 1) hP hA hW h5 ⟨hq.1, hq.2.1⟩ h3 h4 (by omega) (by omega) (fun σ1 M1 => ?_)
  obtain ⟨F1, c1, A31, T1, ord, O1, A41⟩ := M1
  have S1 := F1.st hP.1
  have O1 : OrdR asg (comeA σ a0 asg seed day) N (cAll asg N) ord := O1
  have askOf : ∀ j, j < cAll asg N → asg (ord j) = some (akF asg (ord j)) := fun j hj => by
    have := (O1.2.1 j hj).2
    unfold akF
    cases c : asg (ord j) with
    | none => exact absurd c this
    | some a => rfl
  have oinj : ∀ i j, i < cAll asg N → j < cAll asg N → ord i = ord j → i = j := fun i j hi hj e => by
    rcases Nat.lt_trichotomy i j with z | z | z
    · rcases O1.1 i j z hj with c | ⟨-, c⟩
      · rw [e] at c; exact absurd c Int32.lt_irrefl
      · omega
    · exact z
    · rcases O1.1 j i z hi with c | ⟨-, c⟩
      · rw [e] at c; exact absurd c Int32.lt_irrefl
      · omega
  have cOf : ∀ p, p < N → ∀ a, asg p = some a → comeA σ a0 asg seed day p = gI σ 2 2 (a0 + a) + late seed day p := fun p _ a e => by unfold comeA; rw [e]
  have k2 : ∀ f i, gI σ1 2 f i = gI σ 2 f i := (F1.1 2 (by decide)).2.1
  have k6 : ∀ f i, gI σ1 6 f i = gI σ 6 f i := (F1.1 6 (by decide)).2.1
  have e4 : ∀ j, j < cAll asg N → gI σ1 11 4 (cnt σ 11 + cAll asg (ord j)) = comeA σ a0 asg seed day (ord j) := fun j hj => by
    rw [cOf _ (O1.2.1 j hj).1 _ (askOf j hj)]
    exact (T1 _ (O1.2.1 j hj).1 _ (askOf j hj)).2.2.2.2.1
  have tEq : ∀ j, j < cAll asg N → tSj dr (fun j => gI σ1 11 4 (cnt σ 11 + cAll asg (ord j))) (fun j => gI σ1 6 5 (ord j)) j = stT σ a0 dr asg seed day ord j := fun j hj => tSj_congr (fun i hi => ⟨e4 i (by omega), k6 5 _⟩)
  refine ⟨S1, c_dressAll (d := d + 5) (e := fun j => cnt σ 11 + cAll asg (ord j)) (pj := ord) (ak := fun j => akF asg (ord j)) (K := K) (a0 := a0) S1 h1 h5' A41 (fun i j hi hj e => oinj i j hi hj (cAll_inj (O1.2.1 i hi).2 (O1.2.1 j hj).2 (by omega))) (fun j hj => (T1 _ (O1.2.1 j hj).1 _ (askOf j hj)).1) (fun j hj => ⟨(T1 _ (O1.2.1 j hj).1 _ (askOf j hj)).2.2.1, hA.2.1 _ (O1.2.1 j hj).1 _ (askOf j hj)⟩) (fun a ha => (k2 7 _).trans (hb a ha)) (fun σ2 F2 t2 b2 o2 => ?_)⟩
  have S2 := F2.st S1
  have bEq : ∀ a, a < K → gI σ2 2 7 (a0 + a) = stB σ a0 dr N asg seed day ord a := fun a ha => by
    rw [b2 a ha]; exact bgS_congr _ tEq
  have r11 : ∀ f i, gR σ2 11 f i = gR σ1 11 f i := F2.2.2.1 11
  have g11 : ∀ f i, f ≠ 5 → gI σ2 11 f i = gI σ1 11 f i := F2.2.2.2.2.2.1
  have tpS : ∀ k, k < cAll asg N → tpF asg N k < N ∧ asg (tpF asg N k) = some (akF asg (tpF asg N k)) ∧ cAll asg (tpF asg N k) = k := fun k hk => by
    obtain ⟨z1, z2, z3⟩ := tpF_spec hk
    refine ⟨z1, ?_, z3⟩
    unfold akF
    cases c : asg (tpF asg N k) with
    | none => exact absurd c z2
    | some a => rfl
  have T1k : ∀ k, k < cAll asg N → TurnR σ1 (cnt σ 11 + k) (tpF asg N k) (a0 + akF asg (tpF asg N k)) day (gI σ 2 2 (a0 + akF asg (tpF asg N k)) + late seed day (tpF asg N k)) := fun k hk => by
    have z := tpS k hk
    have := T1 _ z.1 _ z.2.1
    rw [z.2.2] at this
    exact this
  have l12 : sameK (fun c => c = 0 ∨ c = 23) σ1 σ2 := F2.1.sub (fun c hc => by rcases hc with rfl | rfl <;> decide)
  have hW1 : LW σ1 := F1.2.2.2.1 hW
  have c01 : cnt σ1 0 = cnt σ 0 := F1.2.2.1
  have hA11 : AL σ1 1 A (fun g => (1, ax g)) := F1.2.2.2.2.1 1 _ _ (by decide) (by omega) hA1
  have hA51 : AL σ1 5 (cnt σ 11) (fun i => (11, i)) := F1.2.2.2.2.1 5 _ _ (by decide) (by omega) hA5
  have W2 : RW σ2 2 n P := (hR2.same F1.1 (by decide) (by decide)).mono20 F2 (fun a z => by have := (st_row S1 2 (by decide)).1; rw [z] at this; cases this; decide)
  have W3 : RW σ2 3 n S := (hR3.same F1.1 (by decide) (by decide)).mono20 F2 (fun a z => by have := (st_row S1 3 (by decide)).1; rw [z] at this; cases this; decide)
  refine ⟨40, 16840, kk - 160, nn - 22040, by omega, by omega, c_sendAll (d := d + 1) (t0 := cnt σ 11) (tp := tpF asg N) (ak := fun k => akF asg (tpF asg N k)) (a0 := a0) (e := fun i => i) (day := day) S2 (hW1.same l12) (by rw [F2.2.1, c01]; exact h5) (hA11.same l12) (A31.same l12) W2 W3 (hA51.same l12) (fun k hk => (r11 0 _).trans (T1k k hk).1) (fun k hk => (r11 2 _).trans (T1k k hk).2.2.1) (fun k hk => (g11 1 _ (by decide)).trans (T1k k hk).2.1) (fun i j hi hj e => by
    have z1 := (tpS i hi).2.2
    have z2 := (tpS j hj).2.2
    rw [← z1, ← z2, e]) hn hR (by omega) (Nat.le_refl _) (fun σ3 M3 => ?_)⟩
  obtain ⟨F3, p3, t3, v3, x2, x3, A53⟩ := M3
  have S3 := F3.st S2
  have akK : ∀ k, k < cAll asg N → akF asg (tpF asg N k) < K := fun k hk => hA.2.1 _ (tpS k hk).1 _ (tpS k hk).2.1
  have m23 : ∀ i, gI σ2 2 3 i = gI σ 2 3 i := fun i => (F2.2.2.2.2.1 3 i (by decide)).trans (k2 3 i)
  refine ⟨S3, kk - 161, nn - 22043, by omega, by omega, c_listInit ?_⟩
  have LW3 : LW σ3 := F3.2.2.2.2.2.2.2.2.1 (hW1.same l12)
  have c03 : cnt σ3 0 = cnt σ 0 := F3.2.2.2.2.2.2.2.1.trans ((F2.2.1 0).trans c01)
  have KL : sameK (fun c => c ≠ 0) σ3 (newL σ3) := fun c hc => (eqK_nO hc).tr ((eqK_sI hc).tr (eqK_sR hc))
  have SL : St (newL σ3) := S3.same KL (fun c hc e => by subst e; revert hc; unfold stKind; decide)
  -- lists
  have lists : ∀ q' n' e', q' ≠ 3 → q' ≠ 4 → q' ≠ 5 → q' < cnt σ 0 → AL σ q' n' e' → AL (newL σ3) q' n' e' := fun q' n' e' n3 n4 n5 hl z => newL_old (by omega) (F3.2.2.2.2.2.2.2.2.2.1 q' n' e' n5 (by rw [F2.2.1, c01]; exact hl) ((F1.2.2.2.2.1 q' n' e' ⟨n3, n4⟩ hl z).same l12))
  have caps : ∀ q', q' ≠ 3 → q' ≠ 4 → q' ≠ 5 → q' < cnt σ 0 → lcap (newL σ3) q' = lcap σ q' := fun q' n3 n4 n5 hl => by
    have e1 : lcap (newL σ3) q' = lcap σ3 q' := by
      unfold lcap
      rw [newL_gR, if_neg (by omega)]
      cases gR σ3 0 1 q' with
      | none => rfl
      | some n => exact (KL 23 (by decide)).2.2.2.1 n.2
    rw [e1, F3.2.2.2.2.2.2.2.2.2.2 q' n5 (by rw [F2.2.1, c01]; exact hl), lcap_eq l12]
    exact F1.2.2.2.2.2 q' ⟨n3, n4⟩ hl
  have G6 : ∀ f i, f ≠ 7 → f ≠ 8 → f ≠ 9 → gI (newL σ3) 6 f i = gI σ 6 f i := fun f i z1 z2 z3 => ((KL 6 (by decide)).2.1 f i).trans ((F3.2.2.2.1 f i z1 z2 z3).trans (((F2.1 6 (by decide)).2.1 f i).trans (k6 f i)))
  have R6 : ∀ f i, gR (newL σ3) 6 f i = gR σ 6 f i := fun f i => ((KL 6 (by decide)).2.2.1 f i).trans (((F3.2.1 6 (by decide)).2.2 (by decide) f i).trans ((F2.2.2.1 6 f i).trans ((F1.1 6 (by decide)).2.2.1 f i)))
  have G2 : ∀ f i, f ≠ 7 → gI (newL σ3) 2 f i = gI σ 2 f i := fun f i z => ((KL 2 (by decide)).2.1 f i).trans (((F3.1 2 (by decide)).2.1 f i).trans ((F2.2.2.2.2.1 f i z).trans (k2 f i)))
  have C6 : cnt (newL σ3) 6 = cnt σ 6 := ((KL 6 (by decide)).1).trans ((F3.2.1 6 (by decide)).1.trans ((F2.2.1 6).trans (F1.1 6 (by decide)).1))
  have C2 : cnt (newL σ3) 2 = cnt σ 2 := ((KL 2 (by decide)).1).trans ((F3.1 2 (by decide)).1.trans ((F2.2.1 2).trans (F1.1 2 (by decide)).1))
  have R7 : ∀ f i, gR (newL σ3) 7 f i = gR σ 7 f i := fun f i => ((KL 7 (by decide)).2.2.1 f i).trans (((F3.1 7 (by decide)).2.2.1 f i).trans ((F2.2.2.1 7 f i).trans ((F1.1 7 (by decide)).2.2.1 f i)))
  have PL : PicS N q K a0 (newL σ3) := hP.of SL (lists 0 _ _ (by decide) (by decide) (by decide) (by omega) hP.2.1) C6 (fun p => G6 0 p (by decide) (by decide) (by decide)) (R7 0 0) (lists q _ _ hq.1 hq.2.1 hq.2.2 hq0 hP.2.2.2.2.2.2.1) C2 (fun x => G2 0 x (by decide))
  have AL' : Seat N K a0 (newL σ3) asg := ⟨fun p hp => (R6 11 p).trans (hA.1 p hp), hA.2.1, fun a ha => (G2 6 _ (by decide)).trans (hA.2.2 a ha)⟩
  refine c_startWith (d := d + 4) PL AL' (fun σ4 F4 A4 => ?_)
  have F4 : SF (newL σ3) σ4 := F4
  have lastE : lastS (fun k => gI σ2 2 7 (a0 + akF asg (tpF asg N k)) + gI σ2 2 3 (a0 + akF asg (tpF asg N k))) (cAll asg N) = lastS (fun k => stB σ a0 dr N asg seed day ord (akF asg (tpF asg N k)) + gI σ 2 3 (a0 + akF asg (tpF asg N k))) (cAll asg N) := lastS_congr _ (fun k hk => by rw [bEq _ (akK k hk), m23])
  show post (some (xI (lastS (fun k => gI σ2 2 7 (a0 + akF asg (tpF asg N k)) + gI σ2 2 3 (a0 + akF asg (tpF asg N k))) (cAll asg N)))) (sI (sR σ4 7 0 0 (some (0, cnt σ3 0))) 12 10 0 (gI (sR σ4 7 0 0 (some (0, cnt σ3 0))) 12 10 0 + 1))
  rw [lastE]
  have KF : sameK (fun c => c ≠ 7 ∧ c ≠ 12) σ4 (sI (sR σ4 7 0 0 (some (0, cnt σ3 0))) 12 10 0 (gI (sR σ4 7 0 0 (some (0, cnt σ3 0))) 12 10 0 + 1)) := fun c hc => (eqK_sR hc.1).tr (eqK_sI hc.2)
  have hr7 : gR (sI (sR σ4 7 0 0 (some (0, cnt σ3 0))) 12 10 0 (gI (sR σ4 7 0 0 (some (0, cnt σ3 0))) 12 10 0 + 1)) 7 0 0 = some (0, cnt σ 0) := by
    rw [gR_sI, gR_self, c03]
  have hSf : St (sI (sR σ4 7 0 0 (some (0, cnt σ3 0))) 12 10 0 (gI (sR σ4 7 0 0 (some (0, cnt σ3 0))) 12 10 0 + 1)) := (St.sR (F4.st SL) (by decide)).sI
  have hday : gI (sR σ4 7 0 0 (some (0, cnt σ3 0))) 12 10 0 = gI σ 12 10 0 := by
    rw [gI_sR, (F4.1 12 (by decide)).2.1, (KL 12 (by decide)).2.1, (F3.1 12 (by decide)).2.1, (F2.1 12 (by decide)).2.1, (F1.1 12 (by decide)).2.1]
  refine h (sR σ4 7 0 0 (some (0, cnt σ3 0))) ord ?_ hday
  generalize sI (sR σ4 7 0 0 (some (0, cnt σ3 0))) 12 10 0 (gI (sR σ4 7 0 0 (some (0, cnt σ3 0))) 12 10 0 + 1) = σf at *
  have g11f : ∀ f i, gI σf 11 f i = gI σ3 11 f i := fun f i => ((KF 11 (by decide)).2.1 f i).trans (((F4.1 11 (by decide)).2.1 f i).trans ((KL 11 (by decide)).2.1 f i))
  have r11f : ∀ f i, gR σf 11 f i = gR σ3 11 f i := fun f i => ((KF 11 (by decide)).2.2.1 f i).trans (((F4.1 11 (by decide)).2.2.1 f i).trans ((KL 11 (by decide)).2.2.1 f i))
  have g6f : ∀ f i, gI σf 6 f i = gI σ3 6 f i := fun f i => ((KF 6 (by decide)).2.1 f i).trans ((F4.2.2.2.2.2.1 f i).trans ((KL 6 (by decide)).2.1 f i))
  have g62 : ∀ f i, gI σ2 6 f i = gI σ 6 f i := fun f i => ((F2.1 6 (by decide)).2.1 f i).trans (k6 f i)
  have l4 : sameK (fun c => c = 0 ∨ c = 23) (newL σ3) σ4 := F4.1.sub (fun c hc => by rcases hc with rfl | rfl <;> decide)
  have lf : sameK (fun c => c = 0 ∨ c = 23) σ4 σf := KF.sub (fun c hc => by rcases hc with rfl | rfl <;> decide)
  have r8f : ∀ r n' b', RW σ3 r n' b' → RW σf r n' b' := fun r n' b' z => ((z.same KL (by decide) (by decide)).same F4.1 (by decide) (by decide)).same KF (by decide) (by decide)
  refine ⟨⟨fun c hc => ?_, fun f i z1 z2 z3 => ?_, fun r z1 z2 => ?_, fun a j z1 z2 z3 => ?_, fun i hi => ⟨fun f => ?_, fun f => ?_⟩, ?_, fun q' n' e' n3 n4 n5 hl z => ((lists q' n' e' n3 n4 n5 hl z).same l4).same lf, fun q' n3 n4 n5 hl => ?_, ?_, ?_⟩, ?_, ?_, ((newL_LW LW3).same l4).same lf, O1, fun p hp a ha => ?_, fun j hj => ?_, fun p hp hn f => ?_, ?_, ?_, ?_, ?_⟩
  · exact ((((F1.1 c ⟨hc.1, hc.2.2.2.2.2.1, hc.2.2.2.2.2.2.2.2⟩).tr (F2.1 c ⟨hc.2.1, hc.2.2.2.2.2.1, hc.2.2.2.2.2.2.2.1⟩)).tr (F3.1 c ⟨hc.1, hc.2.2.1, hc.2.2.2.2.1, hc.2.2.2.2.2.1, hc.2.2.2.2.2.2.2.1, hc.2.2.2.2.2.2.2.2⟩)).tr (KL c hc.1)).tr ((F4.1 c ⟨hc.2.1, hc.2.2.1, hc.2.2.2.1⟩).tr (KF c ⟨hc.2.2.2.1, hc.2.2.2.2.2.2.1⟩))
  · rw [g6f, F3.2.2.2.1 f i z1 z2 z3, g62]
  · exact ((KF 8 (by decide)).2.1 1 r).trans (((F4.1 8 (by decide)).2.1 1 r).trans (((KL 8 (by decide)).2.1 1 r).trans ((F3.2.2.2.2.1 r z1 z2).trans (((F2.1 8 (by decide)).2.1 1 r).trans ((F1.1 8 (by decide)).2.1 1 r)))))
  · exact ((KF 20 (by decide)).2.2.2.2.1 a j).trans (((F4.1 20 (by decide)).2.2.2.2.1 a j).trans (((KL 20 (by decide)).2.2.2.2.1 a j).trans ((F3.2.2.2.2.2.1 a j z1 z2).trans ((F2.2.2.2.2.2.2 a j z3).trans ((F1.1 20 (by decide)).2.2.2.2.1 a j)))))
  · rw [g11f, (t3 i (Or.inl hi)).1 f, ← (F1.2.1.2 i hi).1 f]
    by_cases z : f = 5
    · subst z; exact o2 i (fun j hj => by omega)
    · exact g11 f i z
  · rw [r11f, (t3 i (Or.inl hi)).2 f, ← (F1.2.1.2 i hi).2 f]
    exact r11 f i
  · rw [(KF 0 (by decide)).1, F4.2.1, newL_cnt, c03]
  · rw [lcap_eq lf, lcap_eq l4]; exact caps q' n3 n4 n5 hl
  · exact ((KF 2 (by decide)).1).trans ((F4.2.1 2).trans C2)
  · exact ((KF 6 (by decide)).1).trans ((F4.2.1 6).trans C6)
  · refine ⟨hSf, ((lists 0 _ _ (by decide) (by decide) (by decide) (by omega) hP.2.1).same l4).same lf, hN, ((KF 6 (by decide)).1).trans ((F4.2.1 6).trans (C6.trans hP.2.2.2.1)), fun p hp => ?_, hr7, ?_, Nat.zero_le _, Nat.zero_le _, fun a ha => absurd ha (Nat.not_lt_zero a)⟩
    · rw [g6f, F3.2.2.2.1 0 p (by decide) (by decide) (by decide), g62]; exact hP.2.2.2.2.1 p hp
    · rw [← c03]; exact ((newL_self LW3 _).same l4).same lf
  · exact ⟨fun p hp => ((KF 6 (by decide)).2.2.1 11 p).trans (A4.1 p hp), fun p hp a e => (by cases e), fun a ha => absurd ha (Nat.not_lt_zero a)⟩
  · have hk : cAll asg p < cAll asg N := cAll_lt N hp (by rw [ha]; simp)
    have ht : tpF asg N (cAll asg p) = p := tpF_of hp (by rw [ha]; simp)
    have hak : akF asg p = a := by unfold akF; rw [ha]; rfl
    have V := v3 (cAll asg p) hk
    dsimp only at V
    rw [ht, hak] at V
    have haK := hA.2.1 p hp a ha
    rw [bEq a haK, m23, g62, g62] at V
    have T := T1 p hp a ha
    have g3 : gI σ2 11 3 (cnt σ 11 + cAll asg p) = gI σ 2 1 (a0 + a) := by rw [g11 3 _ (by decide), T.2.2.2.1, k2]
    rw [g3] at V
    refine ⟨?_, ?_, ?_, ?_, (g11f 6 _).trans V.1, (g11f 7 _).trans V.2.1, (r11f 8 _).trans V.2.2.1, (g6f 7 p).trans V.2.2.2.1, (g6f 8 p).trans V.2.2.2.2.1, (g6f 9 p).trans V.2.2.2.2.2⟩
    · rw [r11f, F3.2.2.1 0 _ (by decide), r11]; exact T.1
    · rw [g11f, F3.2.2.2.2.2.2.1 1 _ (by decide) (by decide), g11 1 _ (by decide)]; exact T.2.1
    · rw [g11f, F3.2.2.2.2.2.2.1 3 _ (by decide) (by decide)]; exact g3
    · rw [g11f, F3.2.2.2.2.2.2.1 4 _ (by decide) (by decide), g11 4 _ (by decide), cOf p hp a ha]; exact T.2.2.2.2.1
  · rw [g11f, F3.2.2.2.2.2.2.1 5 _ (by decide) (by decide), t2 j hj]; exact tEq j hj
  · rw [g6f, p3 p (fun j hj z => by
      have := (tpS j hj).2.1
      rw [← z, hn] at this; cases this) f, g62]
  · exact (r8f 2 _ _ x2).fits (fun i hi => by
      unfold catN
      by_cases z : i < n
      · rw [if_pos z, if_pos z]
      · rw [if_neg z, if_neg z]
        show gI σ2 6 0 (tpF asg N (i - n)) = nI (tpF asg N (i - n))
        rw [g62]; exact hP.2.2.2.2.1 _ (tpS (i - n) (by omega)).1)
  · exact (r8f 3 _ _ x3).fits (fun i hi => by
      unfold catN
      by_cases z : i < n
      · rw [if_pos z, if_pos z]
      · rw [if_neg z, if_neg z]
        show gI σ2 11 3 (cnt σ 11 + (i - n)) = gI σ 2 1 (a0 + akF asg (tpF asg N (i - n)))
        rw [g11 3 _ (by decide), (T1k (i - n) (by omega)).2.2.2.1, k2])
  · exact (((newL_old (by omega) A53).same l4).same lf).fits (fun i hi => by
      show ((11 : Nat), if i < cnt σ 11 then i else cnt σ 11 + (i - cnt σ 11)) = (11, i)
      by_cases z : i < cnt σ 11
      · rw [if_pos z]
      · rw [if_neg z]; congr 1; omega)
  · exact ((KF 11 (by decide)).1).trans ((F4.2.1 11).trans (((KL 11 (by decide)).1).trans ((F3.2.1 11 (by decide)).1.trans ((F2.2.1 11).trans c1))))
end STEPDAY
