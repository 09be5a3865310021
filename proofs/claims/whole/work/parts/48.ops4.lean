/-! Calls of the class: asks, agree, step. -/
section OPS4
variable {G : GG} {l : Launch} {d : Nat} {post : Option AVal → AS → Prop} {σ : AS} {kk nn : Nat}
theorem c_asks {N q K a0 n : Nat} {asg : Nat → Option Nat} {b : Nat → Int32} (hP : PicS N q K a0 σ) (hA : Seat N K a0 σ asg) (hW : LW σ) (h0 : 0 < cnt σ 0) (hq0 : q < cnt σ 0) (hR : RW σ 0 n b) (hn : n ≤ 1000) (hkk : 29 ≤ kk) (hnn : 7703 ≤ nn)
    (bad : ∀ σ1 K' o, rall n b 6 0 0 = (K', o) → ¬ o.1 = 0 → St σ1 → BadA σ σ1 n b o → post (some (xI (-2 - o.1))) (sI σ1 8 1 0 0))
    (good : ∀ σ1 σ2 K', MidA σ σ1 n b K' → K' ≤ 6 → rall n b 6 0 0 = (K', (0, ip n b K')) → SF (sI σ1 8 1 0 0) σ2 → St σ2 → Seat N K a0 σ2 (fun _ => none) → post (some (xI (nI K'))) (sR σ2 7 0 0 (some (0, cnt σ 0)))) : AMet G l M_X11_asks (d + 27) kk nn [xR (some (12, 0))] σ post := by
  refine AMet.of rfl (Nat.le_of_ble_eq_true rfl) (vc_X11_asks (d := d + 26) hP.1 ⟨kk, nn, 0, 0, (Nat.zero_add _).symm, (Nat.zero_add _).symm, c_read hP.1 hW hR hn hkk hnn (fun σ1 K' M S1 hK' e => ⟨S1, fun z => (by cases z), fun n' z => ⟨cnt σ 0, (by cases z; rfl), ?_⟩⟩) (fun σ1 K' o e ho S1 B => ⟨S1, fun _ => ?_, fun n' z => (by cases z)⟩)⟩)
  · have F := M.1
    have K8 : sameK (fun c => c ≠ 8) σ1 (sI σ1 8 1 0 0) := fun c hc => eqK_sI hc
    have s8 : sameK (fun c => c = 0 ∨ c = 23) σ1 (sI σ1 8 1 0 0) := K8.sub (fun c hc => by rcases hc with rfl | rfl <;> decide)
    have old2 : ∀ a, a < K → (∀ f, gI (sI σ1 8 1 0 0) 2 f (a0 + a) = gI σ 2 f (a0 + a)) := fun a ha f => ((K8 2 (by decide)).2.1 f _).trans ((F.2.1.2 (a0 + a) (by have := hP.2.2.2.2.2.2.2.2.1; omega)).1 f)
    have P1 : PicS N q K a0 (sI σ1 8 1 0 0) := by
      obtain ⟨k1, k2, k3, k4, k5, k6, k7, k8, k9, k10⟩ := hP
      exact ⟨S1.sI, (F.2.2.2.2.2.2.2.2.1 0 _ _ h0 k2).same s8, k3, ((F.1 6 (by decide)).1).trans k4, fun p hp => ((K8 6 (by decide)).2.1 0 p).trans (((F.1 6 (by decide)).2.1 0 p).trans (k5 p hp)), ((F.1 7 (by decide)).2.2.1 0 0).trans k6, (F.2.2.2.2.2.2.2.2.1 q _ _ hq0 k7).same s8, k8, Nat.le_trans k9 F.2.1.1, fun a ha => (old2 a ha 0).trans (k10 a ha)⟩
    have A1 : Seat N K a0 (sI σ1 8 1 0 0) asg := ⟨fun p hp => ((F.1 6 (by decide)).2.2.1 11 p).trans (hA.1 p hp), hA.2.1, fun a ha => (old2 a ha 6).trans (hA.2.2 a ha)⟩
    refine c_startWith (d := d + 21) P1 A1 (fun σ2 F2 A2 => ?_)
    have hAL : AL (sR σ2 7 0 0 (some (0, cnt σ 0))) (cnt σ 0) K' (fun j => (2, cnt σ 2 + j)) := (F2.al (M.2.2.2.2.1.same s8)).same (fun c hc => eqK_sR (by rcases hc with rfl | rfl <;> decide))
    exact c_size hAL (good σ1 σ2 K' M hK' e F2 (F2.st S1.sI) A2)
  · rw [B.2.2.2.1]
    exact bad σ1 K' o e ho S1 B
/-- what an agreement told changes -/
def AgF (σ σ' : AS) : Prop := sameK (fun c => c ≠ 0 ∧ c ≠ 1 ∧ c ≠ 8 ∧ c ≠ 9 ∧ c ≠ 10 ∧ c ≠ 23) σ σ' ∧ oldO (cnt σ 1) σ σ' 1 ∧ oldO (cnt σ 9) σ σ' 9 ∧ (∀ r, r ≠ 0 → gI σ' 8 1 r = gI σ 8 1 r) ∧ (∀ c, c = 8 ∨ c = 10 → cnt σ' c = cnt σ c ∧ (∀ f i, gR σ' c f i = gR σ c f i) ∧ ∀ i, gN σ' c i = gN σ c i) ∧ cnt σ 0 ≤ cnt σ' 0 ∧ LW σ' ∧ (∀ q n e, q ≠ 1 → q < cnt σ 0 → AL σ q n e → AL σ' q n e) ∧ (∀ q, q ≠ 1 → q < cnt σ 0 → lcap σ' q = lcap σ q) ∧ RW σ' 0 0 (fun _ => 0)
theorem AgF.st {σ' : AS} (h : AgF σ σ') (hS : St σ) : St σ' := hS.of fun c hc => by
  by_cases h1 : c = 8 ∨ c = 10
  · have k := h.2.2.2.2.1 c h1
    exact ⟨fun f i _ => k.2.1 f i, fun i _ => k.2.2 i, Nat.le_of_eq k.1.symm⟩
  · have k := h.1 c (by
      refine ⟨?_, ?_, fun e => h1 (Or.inl e), ?_, fun e => h1 (Or.inr e), ?_⟩ <;> (intro e; subst e; revert hc; unfold stKind; decide))
    exact ⟨fun f i _ => k.2.2.1 f i, fun i _ => k.2.2.2.1 i, Nat.le_of_eq k.1.symm⟩
theorem c_agree {A n : Nat} {ax : Nat → Nat} {b : Nat → Int32} (hS : St σ) (hW : LW σ) (h5 : 5 < cnt σ 0) (hA1 : AL σ 1 A (fun g => (1, ax g))) (hA30 : A ≤ 30) (hR : RW σ 0 n b) (hkk : 21 ≤ kk) (hnn : 200 ≤ nn)
    (full : A = 30 → post (some (xI (-2))) σ)
    (bad : A < 30 → ∀ σ' K' o, rallT n b 8 0 0 = (K', o) → ¬ o.1 = 0 → AgF σ σ' → AL σ' 1 A (fun g => (1, ax g)) → gI σ' 10 1 0 = nI o.2 → post (some (xI (-2 - o.1))) σ')
    (good : A < 30 → ∀ σ' K', rallT n b 8 0 0 = (K', (0, ipT n b K')) → K' ≤ 8 → AgF σ σ' → AL σ' 1 (A + 1) (fun g => (1, if g = A then cnt σ 1 else ax g)) → cnt σ' 1 = cnt σ 1 + 1 → gI σ' 1 0 (cnt σ 1) = nI A → gR σ' 1 1 (cnt σ 1) = some (0, cnt σ 0) → cnt σ 0 < cnt σ' 0 → AL σ' (cnt σ 0) K' (fun j => (9, cnt σ 9 + j)) → cnt σ' 9 = cnt σ 9 + K' → (∀ j, j < K' → TermR σ' (cnt σ 9 + j) n b (ipT n b j)) → gI σ' 10 1 0 = -1 → post (some (xI (nI A))) σ') : AMet G l M_X11_agree (d + 9) kk nn [xR (some (12, 0))] σ post := by
  refine AMet.of rfl (Nat.le_of_ble_eq_true rfl) (vc_X11_agree (d := d + 8) hS (c_size hA1 ⟨hS, fun c => ?_, fun c => full ?_⟩))
  rotate_left
  · have : ¬ A < 30 := fun z => c (nI_lt z (by decide))
    omega
  have hlt : A < 30 := (nI_ltI (b := 30) (by omega) (by decide)).mp c
  have K1 : sameK (fun c => c ≠ 1) σ (nO σ 1) := fun c hc => eqK_nO hc
  have l1 : sameK (fun c => c = 0 ∨ c = 23) σ (nO σ 1) := K1.sub (fun c hc => by rcases hc with rfl | rfl <;> decide)
  refine ⟨kk - 1, nn - 2, by omega, by omega, c_size (hA1.same l1) ⟨1, 3, kk - 2, nn - 5, by omega, by omega, AMet.of rfl (Nat.le_of_ble_eq_true rfl) (vc_X0_init (d := d + 7) ⟨0, 0, rfl, rfl, c_listInit ?_⟩)⟩⟩
  have hW1 : LW (nO σ 1) := hW.same l1
  have c0 : cnt (nO σ 1) 0 = cnt σ 0 := (K1 0 (by decide)).1
  generalize hL : sR (sI (nO (nO σ 1) 0) 0 0 (cnt (nO σ 1) 0) 0) 0 1 (cnt (nO σ 1) 0) (some (23, 0)) = τ
  have hL' : τ = newL (nO σ 1) := hL.symm
  clear hL
  subst hL'
  dsimp only [retV]
  rw [c0]
  have KL : sameK (fun c => c ≠ 0) (nO σ 1) (newL (nO σ 1)) := fun c hc => (eqK_nO hc).tr ((eqK_sI hc).tr (eqK_sR hc))
  have K2 : sameK (fun c => c ≠ 1) (newL (nO σ 1)) (sI (sR (newL (nO σ 1)) 1 1 (cnt σ 1) (some (0, cnt σ 0))) 1 0 (cnt σ 1) (nI A)) := fun c hc => (eqK_sR hc).tr (eqK_sI hc)
  have l2 : sameK (fun c => c = 0 ∨ c = 23) (newL (nO σ 1)) (sI (sR (newL (nO σ 1)) 1 1 (cnt σ 1) (some (0, cnt σ 0))) 1 0 (cnt σ 1) (nI A)) := K2.sub (fun c hc => by rcases hc with rfl | rfl <;> decide)
  have hx2 : gR (sI (sR (newL (nO σ 1)) 1 1 (cnt σ 1) (some (0, cnt σ 0))) 1 0 (cnt σ 1) (nI A)) 1 1 (cnt σ 1) = some (0, cnt σ 0) := by rw [gR_sI, gR_self]
  have hn2 : gI (sI (sR (newL (nO σ 1)) 1 1 (cnt σ 1) (some (0, cnt σ 0))) 1 0 (cnt σ 1) (nI A)) 1 0 (cnt σ 1) = nI A := gI_self
  have O1 : oldO (cnt σ 1) σ (sI (sR (newL (nO σ 1)) 1 1 (cnt σ 1) (some (0, cnt σ 0))) 1 0 (cnt σ 1) (nI A)) 1 := (((oldO_new (Nat.le_refl _) : oldO (cnt σ 1) σ (nO σ 1) 1).tr (KL 1 (by decide)).oldO).tr (oldO_sR (Nat.le_refl _))).tr (oldO_sI (Nat.le_refl _))
  have c12 : cnt (sI (sR (newL (nO σ 1)) 1 1 (cnt σ 1) (some (0, cnt σ 0))) 1 0 (cnt σ 1) (nI A)) 1 = cnt σ 1 + 1 := by
    rw [cnt_sI, cnt_sR, (KL 1 (by decide)).1, cnt_nO, if_pos rfl]
  generalize sI (sR (newL (nO σ 1)) 1 1 (cnt σ 1) (some (0, cnt σ 0))) 1 0 (cnt σ 1) (nI A) = σ2 at *
  have Kall : sameK (fun c => c ≠ 0 ∧ c ≠ 1) σ σ2 := fun c hc => ((K1 c hc.2).tr (KL c hc.1)).tr (K2 c hc.2)
  have S2 : St σ2 := hS.same Kall (fun c hc => ⟨fun e => by subst e; revert hc; unfold stKind; decide, fun e => by subst e; revert hc; unfold stKind; decide⟩)
  have W2 : LW σ2 := (newL_LW hW1).same l2
  have R2 : RW σ2 0 n b := hR.same Kall (by decide) (by decide)
  have c02 : cnt σ2 0 = cnt σ 0 + 1 := ((K2 0 (by decide)).1).trans (by rw [newL_cnt, c0])
  have Aq : AL σ2 (cnt σ 0) 0 (fun j => (9, cnt σ2 9 + j)) := by
    have := (newL_self hW1 (fun j => (9, cnt σ2 9 + j))).same l2
    rw [c0] at this
    exact this
  have lq : lcap σ2 (cnt σ 0) = 0 := by
    rw [lcap_eq l2]
    unfold lcap
    rw [newL_gR, c0, if_pos rfl]
    show gN (newL (nO σ 1)) 23 0 = 0
    rw [(KL 23 (by decide)).2.2.2.1]
    exact hW1.2.2.1
  have lists2 : ∀ q' n' e', q' < cnt σ 0 → AL σ q' n' e' → AL σ2 q' n' e' := fun q' n' e' hl z => (newL_old (by rw [c0]; exact hl) (z.same l1)).same l2
  have caps2 : ∀ q', q' < cnt σ 0 → lcap σ2 q' = lcap σ q' := fun q' hl => by
    rw [lcap_eq l2, ← lcap_eq l1]
    unfold lcap
    rw [newL_gR, c0, if_neg (by omega)]
    cases gR (nO σ 1) 0 1 q' with
    | none => rfl
    | some n => exact (KL 23 (by decide)).2.2.2.1 n.2
  -- frames behind the reading
  have fr : ∀ σ3, GF (cnt σ2 9) (cnt σ 0) σ2 σ3 → St σ3 → AgF σ (sI σ3 8 1 0 0) := fun σ3 F3 S3 => by
    have K8 : sameK (fun c => c ≠ 8) σ3 (sI σ3 8 1 0 0) := fun c hc => eqK_sI hc
    have l8 : sameK (fun c => c = 0 ∨ c = 23) σ3 (sI σ3 8 1 0 0) := K8.sub (fun c hc => by rcases hc with rfl | rfl <;> decide)
    have e9 : cnt σ2 9 = cnt σ 9 := (Kall 9 (by decide)).1
    refine ⟨fun c hc => ((Kall c ⟨hc.1, hc.2.1⟩).tr (F3.1 c ⟨hc.1, hc.2.2.2.1, hc.2.2.2.2.1, hc.2.2.2.2.2⟩)).tr (K8 c hc.2.2.1), (O1.tr ((F3.1 1 (by decide)).oldO)).tr (K8 1 (by decide)).oldO, (((Kall 9 (by decide)).oldO : oldO (cnt σ 9) σ σ2 9).tr (by rw [← e9]; exact F3.2.1)).tr (K8 9 (by decide)).oldO, fun r hr => (gI_o (fun z => hr z.2.2)).trans (((F3.1 8 (by decide)).2.1 1 r).trans ((Kall 8 (by decide)).2.1 1 r)), fun c hc => ?_, ?_, (F3.2.2.2.2.1 W2).same l8, fun q' n' e' _ hl z => (F3.2.2.2.2.2.1 q' n' e' hl (lists2 q' n' e' hl z)).same l8, fun q' _ hl => ?_, RW.mk S3.sI (by decide) (by rw [gI_self, nI_0]) (Nat.zero_le _) (fun i hi => absurd hi (Nat.not_lt_zero i))⟩
    · rcases hc with rfl | rfl
      · have a := F3.1 8 (by decide)
        have z := Kall 8 (by decide)
        exact ⟨a.1.trans z.1, fun f i => (a.2.2.1 f i).trans (z.2.2.1 f i), fun i => (a.2.2.2.1 i).trans (z.2.2.2.1 i)⟩
      · have a := F3.2.2.1
        have z := Kall 10 (by decide)
        exact ⟨a.1.trans z.1, fun f i => (a.2.1 f i).trans (z.2.2.1 f i), fun i => (a.2.2 i).trans (z.2.2.2.1 i)⟩
    · have := F3.2.2.2.1
      show cnt σ 0 ≤ cnt σ3 0
      omega
    · rw [lcap_eq l8, F3.2.2.2.2.2.2 q' hl]; exact caps2 q' hl
  have e9 : cnt σ2 9 = cnt σ 9 := (Kall 9 (by decide)).1
  refine ⟨S2, 18, 126, kk - 20, nn - 131, by omega, by omega, c_readFrom (d := d) S2 W2 R2 hx2 (by omega) Aq lq (Nat.le_refl _) (Nat.le_refl _) (fun σ3 K' M S3 hK' e => ⟨S3, fun _ => ?_, fun z => absurd z (by decide)⟩) (fun σ3 K' o e ho S3 B => ⟨S3, fun z => absurd rfl z, fun _ => ?_⟩)⟩
  · obtain ⟨F3, g2, g3, g4, g5, g6, g7, g8, g9, g10, g11, g12⟩ := M
    have T := fr σ3 F3 S3
    have K8 : sameK (fun c => c ≠ 8) σ3 (sI σ3 8 1 0 0) := fun c hc => eqK_sI hc
    have l8 : sameK (fun c => c = 0 ∨ c = 23) σ3 (sI σ3 8 1 0 0) := K8.sub (fun c hc => by rcases hc with rfl | rfl <;> decide)
    have A13 : AL (sI σ3 8 1 0 0) 1 A (fun g => (1, ax g)) := (F3.2.2.2.2.2.1 1 _ _ (by omega) (lists2 1 _ _ (by omega) hA1)).same l8
    refine ⟨1, 60, kk - 21, nn - 191, by omega, by omega, c_add (d := d + 2) T.2.2.2.2.2.2.1 (by show 1 < cnt σ3 0; omega) A13 (by show 1 < 14; omega) (by omega) (Or.inr ⟨Nat.le_refl _, by unfold ncap; split <;> omega⟩) (fun σ4 D A4 _ => ?_)⟩
    have q1 := D.1 1 (by decide)
    have q9 := D.1 9 (by decide)
    have q10 := D.1 10 (by decide)
    have e10 : gI σ4 1 0 (cnt σ 1) = nI A := (q1.2.1 0 _).trans (((K8 1 (by decide)).2.1 0 _).trans (((F3.1 1 (by decide)).2.1 0 _).trans hn2))
    show post (some (xI (gI σ4 1 0 (cnt σ 1)))) σ4
    rw [e10]
    refine good hlt σ4 K' e hK' ?_ ?_ ?_ e10 ?_ ?_ ?_ ?_ (fun j hj => ?_) ?_
    · refine ⟨fun c hc => (T.1 c hc).tr (D.1 c ⟨hc.1, hc.2.2.2.2.2⟩), T.2.1.tr q1.oldO, T.2.2.1.tr q9.oldO, fun r hr => ((D.1 8 (by decide)).2.1 1 r).trans (T.2.2.2.1 r hr), fun c hc => ?_, by rw [D.2.1]; exact T.2.2.2.2.2.1, D.2.2.1, fun q' n' e' hq hl z => D.2.2.2.1 q' n' e' hq (Nat.lt_of_lt_of_le hl T.2.2.2.2.2.1) (T.2.2.2.2.2.2.2.1 q' n' e' hq hl z), fun q' hq hl => (D.2.2.2.2 q' hq (Nat.lt_of_lt_of_le hl T.2.2.2.2.2.1)).trans (T.2.2.2.2.2.2.2.2.1 q' hq hl), T.2.2.2.2.2.2.2.2.2.same D.1 (by decide) (by decide)⟩
      have z := D.1 c (by rcases hc with rfl | rfl <;> decide)
      have y := T.2.2.2.2.1 c hc
      exact ⟨z.1.trans y.1, fun f i => (z.2.2.1 f i).trans (y.2.1 f i), fun i => (z.2.2.2.1 i).trans (y.2.2 i)⟩
    · exact A4.fits (fun i hi => by
        show (if i = A then ((1 : Nat), cnt σ 1) else (1, ax i)) = (1, if i = A then cnt σ 1 else ax i)
        by_cases w : i = A
        · rw [if_pos w, if_pos w]
        · rw [if_neg w, if_neg w])
    · exact q1.1.trans (((F3.1 1 (by decide)).1).trans c12)
    · exact (q1.2.2.1 1 _).trans (((K8 1 (by decide)).2.2.1 1 _).trans (((F3.1 1 (by decide)).2.2.1 1 _).trans hx2))
    · rw [D.2.1]
      show cnt σ 0 < cnt σ3 0
      omega
    · have := D.2.2.2.1 (cnt σ 0) K' (fun j => (9, cnt σ2 9 + j)) (by omega) (by show cnt σ 0 < cnt σ3 0; omega) (g5.same l8)
      rw [e9] at this
      exact this
    · exact q9.1.trans (by rw [← e9]; exact g3)
    · have z := g12 j hj
      rw [e9] at z
      obtain ⟨z1, z2, z3, z4⟩ := z
      exact ⟨(q9.2.1 0 _).trans (((K8 9 (by decide)).2.1 0 _).trans z1), (q9.2.1 1 _).trans (((K8 9 (by decide)).2.1 1 _).trans z2), (q9.2.1 2 _).trans (((K8 9 (by decide)).2.1 2 _).trans z3), (q9.2.1 3 _).trans (((K8 9 (by decide)).2.1 3 _).trans z4)⟩
    · exact (q10.2.1 1 0).trans (((K8 10 (by decide)).2.1 1 0).trans g11)
  · obtain ⟨F3, b2, b3, b4, b5⟩ := B
    have T := fr σ3 F3 S3
    have K8 : sameK (fun c => c ≠ 8) σ3 (sI σ3 8 1 0 0) := fun c hc => eqK_sI hc
    have l8 : sameK (fun c => c = 0 ∨ c = 23) σ3 (sI σ3 8 1 0 0) := K8.sub (fun c hc => by rcases hc with rfl | rfl <;> decide)
    rw [b4]
    exact bad hlt _ K' o e ho T ((F3.2.2.2.2.2.1 1 _ _ (by omega) (lists2 1 _ _ (by omega) hA1)).same l8) (((K8 10 (by decide)).2.1 1 0).trans b5)
theorem c_step {N q K a0 n A D : Nat} {asg : Nat → Option Nat} {ax : Nat → Nat} {P S : Nat → Int32} {x seed : Int32} (hP : PicS N q K a0 σ) (hA : Seat N K a0 σ asg) (hD : gI σ 12 10 0 = nI D) (hD6 : D ≤ 60) (hW : LW σ) (h5 : 5 < cnt σ 0) (hq : q ≠ 3 ∧ q ≠ 4 ∧ q ≠ 5) (hq0 : q < cnt σ 0) (hA1 : AL σ 1 A (fun g => (1, ax g))) (hA5 : AL σ 5 (cnt σ 11) (fun i => (11, i))) (hR2 : RW σ 2 n P) (hR3 : RW σ 3 n S) (hb : ∀ a, a < K → gI σ 2 7 (a0 + a) = 0) (hn : D < 60 → n + 40 ≤ 2600) (hR : D < 60 → cnt σ 11 + 40 ≤ 2400) (hkk : 1 ≤ D → True) (hkk' : D < 60 → 161 ≤ kk ∧ 22043 ≤ nn)
    (h0 : ¬ ((¬ x < 1 ∧ ¬ 5 < x) ∧ cAll asg N ≠ 0 ∧ D < 60) → post (some (xI (-1))) σ)
    (h1 : ∀ dr, x = nI dr → 1 ≤ dr → dr ≤ 5 → cAll asg N ≠ 0 → D < 60 → ∀ σ' ord, DayR σ (sI σ' 12 10 0 (nI (D + 1))) N K a0 dr n A asg ax P S seed (nI D) ord → post (some (xI (lastS (fun k => stB σ a0 dr N asg seed (nI D) ord (akF asg (tpF asg N k)) + gI σ 2 3 (a0 + akF asg (tpF asg N k))) (cAll asg N)))) (sI σ' 12 10 0 (nI (D + 1)))) : AMet G l M_X11_step (d + 10) kk nn [xR (some (12, 0)), xI x, xI seed] σ post := by
  have hN := hP.2.2.1
  have hcN := cAll_le (asg := asg) N
  refine AMet.of rfl (Nat.le_of_ble_eq_true rfl) (vc_X11_step (d := d + 9) (c_withinB (fun z => ⟨hP.1, fun _ => h0 (fun w => z w.1), fun z2 => absurd rfl z2⟩) (fun z => ⟨hP.1, fun c => absurd c (by decide), fun _ => c_psize (d := d + 5) hP hA ⟨hP.1, fun c => h0 (fun w => w.2.1 ?_), fun c => ?_⟩⟩)))
  · have := (nI_eq (b := 0) (show cAll asg N < 2 ^ 31 by omega) (by decide)).mp (by rw [c, nI_0])
    exact this
  · rw [hD]
    have hc0 : cAll asg N ≠ 0 := fun e => c (by rw [e, nI_0])
    obtain ⟨dr, hdr, rfl⟩ := nI_of (x := x) (fun q => z.1 (Int32.lt_trans q (by decide)))
    have d1 : 1 ≤ dr := Nat.le_of_not_lt fun q => z.1 (nI_lt (b := 1) q (by decide))
    have d5 : dr ≤ 5 := Nat.le_of_not_lt fun q => z.2 (nI_lt (a := 5) q hdr)
    refine ⟨fun c6 => ?_, fun c6 => h0 (fun w => c6 (nI_lt w.2.2 (by decide)))⟩
    have hlt : D < 60 := (nI_ltI (b := 60) (by omega) (by decide)).mp c6
    exact a_day (d := d) hP hA hW h5 hq hq0 hA1 hA5 hR2 hR3 hb d1 d5 (by have := hn hlt; omega) (by have := hR hlt; omega) (hkk' hlt).1 (hkk' hlt).2 (fun σ' ord R e => by
      rw [e, hD, nI_1] at R ⊢
      exact h1 dr rfl d1 d5 hc0 hlt σ' ord R)
end OPS4
