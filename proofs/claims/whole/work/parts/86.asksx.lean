/-! The class's asks once more: new asks hold nobody. -/
section ASKSX
variable {G : GG} {l : Launch} {d : Nat} {post : Option AVal → AS → Prop} {σ : AS} {kk nn : Nat}
def H6 (K a0 : Nat) (σ σ' : AS) : Prop := ∀ i, (∀ a, a < K → i ≠ a0 + a) → gI σ' 2 6 i = gI σ 2 6 i
theorem c_moveN {N q K a0 p : Nat} {asg : Nat → Option Nat} (hP : PicS N q K a0 σ) (hA : Seat N K a0 σ asg) (hp : p < N)
    (h : ∀ σ', SF σ σ' → H6 K a0 σ σ' → Seat N K a0 σ' (updO asg p none) → post none σ') : AMet G l M_X5_moveTo d 0 0 [xR (some (6, p)), xR none] σ post := by
  have ht : ∀ n, gR σ 6 11 p = some n → ∃ x, n = (2, x) := fun n e => by
    rw [hA.1 p hp] at e
    cases c : asg p with
    | none => rw [c] at e; cases e
    | some a => rw [c] at e; cases e; exact ⟨a0 + a, rfl⟩
  have hasg : ∀ x, gR σ 6 11 p = some (2, x) → ∃ a, asg p = some a ∧ x = a0 + a := fun x e => by
    rw [hA.1 p hp] at e
    cases c : asg p with
    | none => rw [c] at e; cases e
    | some a => rw [c] at e; cases e; exact ⟨a, rfl, rfl⟩
  have hnone : gR σ 6 11 p = none → asg p = none := fun e => by
    rw [hA.1 p hp] at e
    cases c : asg p with
    | none => rfl
    | some a => rw [c] at e; cases e
  have hv : ∀ a, (none : Option Nat) = some a → a < K := fun a e => by cases e
  refine c_moveNone (fun e => ?_) (fun x e => ?_) ht
  · refine h _ SF.setR (fun i _ => rfl) (seat_upd hA hP.2.2.1 hp hv (fun i => ?_) (fun a ha => ?_))
    · rw [gR_sR]
      by_cases c : i = p
      · rw [if_pos ⟨rfl, rfl, c⟩, if_pos c]; rfl
      · rw [if_neg (fun z => c z.2.2), if_neg c]
    · rw [hnone e, if_neg (by simp), Int32.sub_zero, Int32.add_zero]; rfl
  · obtain ⟨b, eb, rfl⟩ := hasg x e
    refine h _ (SF.setH.tr SF.setR) (fun i hi => ?_) (seat_upd hA hP.2.2.1 hp hv (fun i => ?_) (fun a ha => ?_))
    · rw [gI_sR, gI_sI, if_neg (fun z => hi b (hA.2.1 p hp b eb) z.2.2)]
    · rw [gR_sR]
      by_cases c : i = p
      · rw [if_pos ⟨rfl, rfl, c⟩, if_pos c]; rfl
      · rw [if_neg (fun z => c z.2.2), if_neg c]; rfl
    · rw [eb, if_neg (c := (none : Option Nat) = some a) (by simp), Int32.add_zero, gI_sR, gI_sI]
      by_cases c : a = b
      · rw [if_pos ⟨rfl, rfl, by rw [c]⟩, if_pos (by rw [c]), c]
      · rw [if_neg (fun z => c (by omega)), if_neg (by simpa using fun z => c z.symm), Int32.sub_zero]
theorem c_dismissX {N q K a0 : Nat} {asg : Nat → Option Nat} (hP : PicS N q K a0 σ) (hA : Seat N K a0 σ asg) (h : ∀ σ', SF σ σ' → H6 K a0 σ σ' → Seat N K a0 σ' (fun _ => none) → post none σ') : AMet G l M_X6_dismissAll (d + 4) 0 0 [xR (some (7, 0))] σ post := by
  have loop : ∀ (f k : Nat) (σ1 : AS), N - k = f → k ≤ N → SF σ σ1 → H6 K a0 σ σ1 → (∃ asg1, Seat N K a0 σ1 asg1 ∧ ∀ p, p < k → asg1 p = none) → AW G l M_X6_dismissAll (d + 4) post σ1 0 0 2 [some (xR (some (7, 0))), some (xI (nI k))] [] := by
    intro f
    induction f with
    | zero =>
      intro k σ1 hf hk hF h6 ⟨asg1, hA1, hn⟩
      have e : k = N := by omega
      subst e
      have P1 := hF.pic hP
      have hN := P1.2.2.1
      refine vc_X6_dismissAll_2 (d := d + 3) P1.1 (c_size P1.2.1 ⟨P1.1, fun _ => h σ1 hF h6 ⟨fun p hp => ?_, fun p hp a e => (by cases e), fun a ha => ?_⟩, fun c => absurd (nI_le (Nat.le_refl k) (by omega)) c⟩)
      · rw [hA1.1 p hp, hn p hp]
      · rw [hA1.2.2 a ha]
        congr 1
        exact cA_congr k (fun p hp => by rw [hn p hp])
    | succ f ih =>
      intro k σ1 hf hk hF h6 ⟨asg1, hA1, hn⟩
      have P1 := hF.pic hP
      have hN := P1.2.2.1
      refine vc_X6_dismissAll_2 (d := d + 3) P1.1 (c_size P1.2.1 ⟨P1.1, fun c => absurd ((nI_leI (by omega) (by omega)).mp c) (by omega), fun _ => c_get P1.2.1 (show k < N by omega) ⟨k, rfl, c_moveN P1 hA1 (by omega) (fun σ2 F2 T2 A2 => ?_)⟩⟩)
      rw [nI_1]
      refine ih (k + 1) σ2 (by omega) (by omega) (hF.tr F2) (fun i hi => (T2 i hi).trans (h6 i hi)) ⟨_, A2, fun p hp => ?_⟩
      unfold updO
      by_cases c : p = k
      · rw [if_pos c]
      · rw [if_neg c]; exact hn p (by omega)
  refine AMet.of rfl (Nat.le_of_ble_eq_true rfl) (vc_X6_dismissAll (d := d + 3) ?_)
  have k := loop N 0 σ rfl (Nat.zero_le _) SF.rf (fun _ _ => rfl) ⟨asg, hA, fun p hp => absurd hp (Nat.not_lt_zero p)⟩
  rw [nI_0] at k
  exact k
theorem c_startX {N q K a0 y : Nat} {asg : Nat → Option Nat} (hP : PicS N q K a0 σ) (hA : Seat N K a0 σ asg) (h : ∀ σ', SF σ σ' → H6 K a0 σ σ' → Seat N K a0 σ' (fun _ => none) → post none (sR σ' 7 0 0 (some (0, y)))) : AMet G l M_X6_startWith (d + 5) 0 0 [xR (some (7, 0)), xR (some (0, y))] σ post :=
  AMet.of rfl (Nat.le_of_ble_eq_true rfl) (vc_X6_startWith (d := d + 4) (c_dismissX hP hA (fun σ' F T A => h σ' F T A)))
theorem c_asksX {N q K a0 n : Nat} {asg : Nat → Option Nat} {b : Nat → Int32} (hP : PicS N q K a0 σ) (hA : Seat N K a0 σ asg) (hW : LW σ) (h0 : 0 < cnt σ 0) (hq0 : q < cnt σ 0) (hR : RW σ 0 n b) (hn : n ≤ 1000) (hkk : 29 ≤ kk) (hnn : 7703 ≤ nn)
    (bad : ∀ σ1 K' o, rall n b 6 0 0 = (K', o) → ¬ o.1 = 0 → St σ1 → BadA σ σ1 n b o → post (some (xI (-2 - o.1))) (sI σ1 8 1 0 0))
    (good : ∀ σ1 σ2 K', MidA σ σ1 n b K' → K' ≤ 6 → rall n b 6 0 0 = (K', (0, ip n b K')) → St σ1 → SF (sI σ1 8 1 0 0) σ2 → H6 K a0 (sI σ1 8 1 0 0) σ2 → St σ2 → Seat N K a0 σ2 (fun _ => none) → post (some (xI (nI K'))) (sR σ2 7 0 0 (some (0, cnt σ 0)))) : AMet G l M_X11_asks (d + 27) kk nn [xR (some (12, 0))] σ post := by
  refine AMet.of rfl (Nat.le_of_ble_eq_true rfl) (vc_X11_asks (d := d + 26) hP.1 ⟨kk, nn, 0, 0, (Nat.zero_add _).symm, (Nat.zero_add _).symm, c_read hP.1 hW hR hn hkk hnn (fun σ1 K' M S1 hK' e => ⟨S1, fun z => (by cases z), fun n' z => ⟨cnt σ 0, (by cases z; rfl), ?_⟩⟩) (fun σ1 K' o e ho S1 B => ⟨S1, fun _ => ?_, fun n' z => (by cases z)⟩)⟩)
  · have F := M.1
    have K8 : sameK (fun c => c ≠ 8) σ1 (sI σ1 8 1 0 0) := fun c hc => eqK_sI hc
    have s8 : sameK (fun c => c = 0 ∨ c = 23) σ1 (sI σ1 8 1 0 0) := K8.sub (fun c hc => by rcases hc with rfl | rfl <;> decide)
    have old2 : ∀ a, a < K → (∀ f, gI (sI σ1 8 1 0 0) 2 f (a0 + a) = gI σ 2 f (a0 + a)) := fun a ha f => ((K8 2 (by decide)).2.1 f _).trans ((F.2.1.2 (a0 + a) (by have := hP.2.2.2.2.2.2.2.2.1; omega)).1 f)
    have P1 : PicS N q K a0 (sI σ1 8 1 0 0) := by
      obtain ⟨k1, k2, k3, k4, k5, k6, k7, k8, k9, k10⟩ := hP
      exact ⟨S1.sI, (F.2.2.2.2.2.2.2.2.1 0 _ _ h0 k2).same s8, k3, ((F.1 6 (by decide)).1).trans k4, fun p hp => ((K8 6 (by decide)).2.1 0 p).trans (((F.1 6 (by decide)).2.1 0 p).trans (k5 p hp)), ((F.1 7 (by decide)).2.2.1 0 0).trans k6, (F.2.2.2.2.2.2.2.2.1 q _ _ hq0 k7).same s8, k8, Nat.le_trans k9 F.2.1.1, fun a ha => (old2 a ha 0).trans (k10 a ha)⟩
    have A1 : Seat N K a0 (sI σ1 8 1 0 0) asg := ⟨fun p hp => ((F.1 6 (by decide)).2.2.1 11 p).trans (hA.1 p hp), hA.2.1, fun a ha => (old2 a ha 6).trans (hA.2.2 a ha)⟩
    refine c_startX (d := d + 21) P1 A1 (fun σ2 F2 T2 A2 => ?_)
    have hAL : AL (sR σ2 7 0 0 (some (0, cnt σ 0))) (cnt σ 0) K' (fun j => (2, cnt σ 2 + j)) := (F2.al (M.2.2.2.2.1.same s8)).same (fun c hc => eqK_sR (by rcases hc with rfl | rfl <;> decide))
    exact c_size hAL (good σ1 σ2 K' M hK' e S1 F2 T2 (F2.st S1.sI) A2)
  · rw [B.2.2.2.1]
    exact bad σ1 K' o e ho S1 B
end ASKSX
