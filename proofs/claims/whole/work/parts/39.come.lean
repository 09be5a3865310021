/-! Coming and being dressed, by the class. -/
section COME
variable {G : GG} {l : Launch} {d : Nat} {post : Option AVal → AS → Prop} {σ : AS} {kk nn : Nat}
/-- lists of Q are as they were -/
def LQ (Q : Nat → Prop) (σ σ' : AS) : Prop := cnt σ' 0 = cnt σ 0 ∧ (LW σ → LW σ') ∧ (∀ q n e, Q q → q < cnt σ 0 → AL σ q n e → AL σ' q n e) ∧ ∀ q, Q q → q < cnt σ 0 → lcap σ' q = lcap σ q
theorem LQ.tr {Q : Nat → Prop} {σ1 σ2 : AS} (h : LQ Q σ σ1) (k : LQ Q σ1 σ2) : LQ Q σ σ2 := ⟨k.1.trans h.1, fun z => k.2.1 (h.2.1 z), fun q n e hq hl z => k.2.2.1 q n e hq (by rw [h.1]; exact hl) (h.2.2.1 q n e hq hl z), fun q hq hl => (k.2.2.2 q hq (by rw [h.1]; exact hl)).trans (h.2.2.2 q hq hl)⟩
theorem LQ.same {Q : Nat → Prop} {σ' : AS} (h : sameK (fun c => c = 0 ∨ c = 23) σ σ') : LQ Q σ σ' := ⟨(h 0 (Or.inl rfl)).1, fun z => z.same h, fun _ _ _ _ _ z => z.same h, fun _ _ _ => lcap_eq h⟩
theorem LQ.add {Q : Nat → Prop} {q : Nat} {σ' : AS} (h : LAdd σ σ' q) (hq : ¬ Q q) : LQ Q σ σ' := ⟨h.2.1, fun _ => h.2.2.1, fun q' n e hq' hl z => h.2.2.2.1 q' n e (fun c => hq (c ▸ hq')) hl z, fun q' hq' hl => h.2.2.2.2 q' (fun c => hq (c ▸ hq')) hl⟩
/-- what coming leaves alone -/
def CF (t0 : Nat) (Q : Nat → Prop) (σ σ' : AS) : Prop := sameK (fun c => c ≠ 0 ∧ c ≠ 11 ∧ c ≠ 23) σ σ' ∧ oldO t0 σ σ' 11 ∧ LQ Q σ σ'
theorem CF.tr {t0 : Nat} {Q : Nat → Prop} {σ1 σ2 : AS} (h : CF t0 Q σ σ1) (k : CF t0 Q σ1 σ2) : CF t0 Q σ σ2 := ⟨h.1.tr k.1, h.2.1.tr k.2.1, h.2.2.tr k.2.2⟩
theorem CF.rf {t0 : Nat} {Q : Nat → Prop} : CF t0 Q σ σ := ⟨sameK.rf, eqK.rf.oldO, LQ.same sameK.rf⟩
theorem CF.of11 {t0 : Nat} {Q : Nat → Prop} {σ' : AS} (h : sameK (fun c => c ≠ 11) σ σ') (k : oldO t0 σ σ' 11) : CF t0 Q σ σ' := ⟨h.sub (fun c hc => hc.2.1), k, LQ.same (h.sub (fun c hc => by rcases hc with rfl | rfl <;> decide))⟩
theorem CF.add {t0 q : Nat} {Q : Nat → Prop} {σ' : AS} (h : LAdd σ σ' q) (hq : ¬ Q q) : CF t0 Q σ σ' := ⟨h.1.sub (fun c hc => ⟨hc.1, hc.2.2⟩), (h.1 11 (by decide)).oldO, LQ.add h hq⟩
theorem CF.st {t0 : Nat} {Q : Nat → Prop} {σ' : AS} (h : CF t0 Q σ σ') (hS : St σ) : St σ' := hS.same h.1 (fun c hc => ⟨fun e => by subst e; revert hc; unfold stKind; decide, fun e => by subst e; revert hc; unfold stKind; decide, fun e => by subst e; revert hc; unfold stKind; decide⟩)
/-- when one comes -/
def nxt (x : Int32) : Int32 := x * 1103515245 + 12345
def late (seed day : Int32) (p : Nat) : Int32 := ((nxt (seed + 31 * nI p + 7 * day)).toUInt32 >>> ((16 : Int32).toUInt32 &&& Int32.toUInt32 31)).toInt32 - ((nxt (seed + 31 * nI p + 7 * day)).toUInt32 >>> ((16 : Int32).toUInt32 &&& Int32.toUInt32 31)).toInt32 / 20 * 20
/-- ord: those called below p, by when they come -/
def OrdR (asg : Nat → Option Nat) (come : Nat → Int32) (p m : Nat) (ord : Nat → Nat) : Prop := (∀ i j, i < j → j < m → come (ord i) < come (ord j) ∨ (come (ord i) = come (ord j) ∧ ord i < ord j)) ∧ (∀ j, j < m → ord j < p ∧ asg (ord j) ≠ none) ∧ ∀ q, q < p → asg q ≠ none → ∃ j, j < m ∧ ord j = q
theorem OrdR.ins {asg : Nat → Option Nat} {come : Nat → Int32} {p m i : Nat} {ord : Nat → Nat} (h : OrdR asg come p m ord) (hp : asg p ≠ none) (hi : i ≤ m) (h1 : ∀ j, j < i → come (ord j) ≤ come p) (h2 : i < m → come p < come (ord i)) : OrdR asg come (p + 1) (m + 1) (fun j => if j < i then ord j else if j = i then p else ord (j - 1)) := by
  obtain ⟨k1, k2, k3⟩ := h
  have above : ∀ j, i ≤ j → j < m → come p < come (ord j) := fun j h3 h4 => by
    by_cases e : i = j
    · rw [← e]; exact h2 (by omega)
    · have a := h2 (by omega)
      rcases k1 i j (by omega) h4 with b | ⟨b, -⟩
      · exact Int32.lt_trans a b
      · rw [← b]; exact a
  refine ⟨fun a b hab hb => ?_, fun j hj => ?_, fun q hq hn => ?_⟩
  · show come (if a < i then ord a else if a = i then p else ord (a - 1)) < come (if b < i then ord b else if b = i then p else ord (b - 1)) ∨ (come (if a < i then ord a else if a = i then p else ord (a - 1)) = come (if b < i then ord b else if b = i then p else ord (b - 1)) ∧ (if a < i then ord a else if a = i then p else ord (a - 1)) < (if b < i then ord b else if b = i then p else ord (b - 1)))
    by_cases a1 : a < i
    · rw [if_pos a1]
      by_cases b1 : b < i
      · rw [if_pos b1]; exact k1 a b hab (by omega)
      · rw [if_neg b1]
        by_cases b2 : b = i
        · rw [if_pos b2]
          rcases Int32.lt_or_eq_of_le (h1 a a1) with z | z
          · exact Or.inl z
          · exact Or.inr ⟨z, (k2 a (by omega)).1⟩
        · rw [if_neg b2]; exact k1 a (b - 1) (by omega) (by omega)
    · rw [if_neg a1]
      by_cases a2 : a = i
      · rw [if_pos a2, if_neg (by omega), if_neg (by omega)]
        exact Or.inl (above (b - 1) (by omega) (by omega))
      · rw [if_neg a2, if_neg (by omega), if_neg (by omega)]; exact k1 (a - 1) (b - 1) (by omega) (by omega)
  · show (if j < i then ord j else if j = i then p else ord (j - 1)) < p + 1 ∧ asg (if j < i then ord j else if j = i then p else ord (j - 1)) ≠ none
    by_cases a1 : j < i
    · rw [if_pos a1]; have := k2 j (by omega); exact ⟨by omega, this.2⟩
    · rw [if_neg a1]
      by_cases a2 : j = i
      · rw [if_pos a2]; exact ⟨Nat.lt_succ_self p, hp⟩
      · rw [if_neg a2]; have := k2 (j - 1) (by omega); exact ⟨by omega, this.2⟩
  · by_cases e : q = p
    · refine ⟨i, by omega, ?_⟩
      show (if i < i then ord i else if i = i then p else ord (i - 1)) = q
      rw [if_neg (Nat.lt_irrefl i), if_pos rfl, e]
    · obtain ⟨j, h3, h4⟩ := k3 q (by omega) hn
      by_cases a1 : j < i
      · refine ⟨j, by omega, ?_⟩
        show (if j < i then ord j else if j = i then p else ord (j - 1)) = q
        rw [if_pos a1]; exact h4
      · refine ⟨j + 1, by omega, ?_⟩
        show (if j + 1 < i then ord (j + 1) else if j + 1 = i then p else ord (j + 1 - 1)) = q
        rw [if_neg (by omega), if_neg (by omega)]; exact h4
/-- the turn of p, who is called in ask object x -/
def TurnR (σ : AS) (t p x : Nat) (day co : Int32) : Prop := gR σ 11 0 t = some (6, p) ∧ gI σ 11 1 t = day ∧ gR σ 11 2 t = some (2, x) ∧ gI σ 11 3 t = gI σ 2 1 x ∧ gI σ 11 4 t = co ∧ gR σ 11 8 t = none
theorem TurnR.keep {t0 t p x : Nat} {Q : Nat → Prop} {day co : Int32} {σ' : AS} (h : TurnR σ t p x day co) (F : CF t0 Q σ σ') (ht : t < t0) : TurnR σ' t p x day co := by
  obtain ⟨g1, g2⟩ := F.2.1.2 t ht
  exact ⟨(g2 0).trans h.1, (g1 1).trans h.2.1, (g2 2).trans h.2.2.1, by rw [g1, (F.1 2 (by decide)).2.1]; exact h.2.2.2.1, (g1 4).trans h.2.2.2.2.1, (g2 8).trans h.2.2.2.2.2⟩
theorem c_queue {m t : Nat} {e : Nat → Nat} {c : Int32} (hS : St σ) (hW : LW σ) (h4 : 4 < cnt σ 0) (hA : AL σ 4 m (fun j => (11, e j))) (hc : gI σ 11 4 t = c) (hm : m < 40) (hk : 1 ≤ kk) (hn : 60 ≤ nn)
    (h : ∀ σ' i, LAdd σ σ' 4 → i ≤ m → (∀ j, j < i → gI σ 11 4 (e j) ≤ c) → (i < m → c < gI σ 11 4 (e i)) → AL σ' 4 (m + 1) (fun j => if j < i then (11, e j) else if j = i then (11, t) else (11, e (j - 1))) → post none σ') : AMet G l M_X3_queue (d + 7) kk nn [xR (some (4, 0)), xR (some (11, t))] σ post := by
  have room : m < lcap σ 4 ∨ (1 ≤ kk ∧ ncap m ≤ nn) := by
    refine Or.inr ⟨hk, ?_⟩
    unfold ncap; split <;> omega
  have loop : ∀ (f i : Nat), m - i = f → i ≤ m → (∀ j, j < i → gI σ 11 4 (e j) ≤ c) → AW G l M_X3_queue (d + 7) post σ kk nn 2 [some (xR (some (4, 0))), some (xR (some (11, t))), some (xI (nI i))] [] := by
    intro f
    induction f with
    | zero =>
      intro i hf hi hle
      have e' : i = m := by omega
      subst e'
      refine vc_X3_queue_2 (d := d + 6) hS (c_size hA ⟨hS, fun _ => ⟨kk, nn, 0, 0, (Nat.zero_add _).symm, (Nat.zero_add _).symm, c_addAt hW h4 hA (Nat.le_refl i) (by show 11 < 14; omega) (by omega) room (fun σ' D A _ => h σ' i D (Nat.le_refl i) hle (fun z => absurd z (Nat.lt_irrefl i)) A)⟩, fun z => absurd (nI_le (Nat.le_refl i) (by omega)) z⟩)
    | succ f ih =>
      intro i hf hi hle
      refine vc_X3_queue_2 (d := d + 6) hS (c_size hA ⟨hS, fun z => absurd ((nI_leI (by omega) (by omega)).mp z) (by omega), fun _ => c_get hA (show i < m by omega) ⟨hS, e i, rfl, fun z => ?_, fun z => ?_⟩⟩)
      · rw [hc] at z
        exact ⟨kk, nn, 0, 0, (Nat.zero_add _).symm, (Nat.zero_add _).symm, c_addAt hW h4 hA hi (by show 11 < 14; omega) (by omega) room (fun σ' D A _ => h σ' i D hi hle (fun _ => z) A)⟩
      · rw [hc] at z
        rw [nI_1]
        refine ih (i + 1) (by omega) (by omega) (fun j hj => ?_)
        by_cases q : j = i
        · rw [q]; exact Int32.not_lt.mp z
        · exact hle j (by omega)
  refine AMet.of rfl (Nat.le_of_ble_eq_true rfl) (vc_X3_queue (d := d + 6) ?_)
  have k := loop m 0 rfl (Nat.zero_le _) (fun j hj => absurd hj (Nat.not_lt_zero j))
  rw [nI_0] at k
  exact k
theorem cAll_lt {asg : Nat → Option Nat} {p : Nat} : ∀ n, p < n → asg p ≠ none → cAll asg p < cAll asg n
  | 0, h, _ => absurd h (Nat.not_lt_zero p)
  | n + 1, h, e => by
    rw [cAll]
    by_cases q : p = n
    · subst q; rw [if_neg e]; omega
    · have := cAll_lt n (by omega) e
      omega
/-- amid the coming: everyone called below p has come -/
def MidC (N q K a0 : Nat) (asg : Nat → Option Nat) (seed day : Int32) (σ σ' : AS) (p : Nat) : Prop := CF (cnt σ 11) (fun q => q ≠ 3 ∧ q ≠ 4) σ σ' ∧ cnt σ' 11 = cnt σ 11 + cAll asg p ∧ AL σ' 3 (cAll asg p) (fun k => (11, cnt σ 11 + k)) ∧ (∀ x, x < p → ∀ a, asg x = some a → TurnR σ' (cnt σ 11 + cAll asg x) x (a0 + a) day (gI σ 2 2 (a0 + a) + late seed day x)) ∧
  ∃ ord : Nat → Nat, OrdR asg (fun x => match asg x with | some a => gI σ 2 2 (a0 + a) + late seed day x | none => 0) p (cAll asg p) ord ∧ AL σ' 4 (cAll asg p) (fun j => (11, cnt σ 11 + cAll asg (ord j)))
theorem c_comeAll {N q K a0 : Nat} {asg : Nat → Option Nat} {seed day : Int32} {m3 m4 : Nat} {e3 e4 : Nat → Nm} (hP : PicS N q K a0 σ) (hA : Seat N K a0 σ asg) (hW : LW σ) (h0 : 5 < cnt σ 0) (hq : q ≠ 3 ∧ q ≠ 4) (h3 : AL σ 3 m3 e3) (h4 : AL σ 4 m4 e4) (hkk : 3 * N ≤ kk) (hnn : 130 * N ≤ nn)
    (h : ∀ σ', MidC N q K a0 asg seed day σ σ' N → post none σ') : AMet G l M_X3_comeAll (d + 8) kk nn [xR (some (4, 0)), xR (some (0, 0)), xI seed, xI day] σ post := by
  have hS := hP.1
  have hN := hP.2.2.1
  refine AMet.of rfl (Nat.le_of_ble_eq_true rfl) (vc_X3_comeAll (d := d + 7) hS (c_clear (f := fun k => (11, cnt σ 11 + k)) hW (by omega) h3 (fun σ1 D1 A1 _ => ?_)))
  have F1 : CF (cnt σ 11) (fun q => q ≠ 3 ∧ q ≠ 4) σ σ1 := CF.add D1 (fun z => z.1 rfl)
  have h41 := D1.2.2.2.1 4 m4 e4 (by decide) (by omega) h4
  refine ⟨F1.st hS, c_clear (f := fun j => (11, cnt σ 11 + cAll asg ((fun _ => 0) j))) D1.2.2.1 (by rw [D1.2.1]; omega) h41 (fun σ2 D2 A2 _ => ?_)⟩
  have F2 : CF (cnt σ 11) (fun q => q ≠ 3 ∧ q ≠ 4) σ σ2 := F1.tr (CF.add D2 (fun z => z.2 rfl))
  have c11 : cnt σ2 11 = cnt σ 11 := ((D2.1 11 (by decide)).1).trans (D1.1 11 (by decide)).1
  have loop : ∀ (f p : Nat) (σ3 : AS) (kk nn : Nat), N - p = f → p ≤ N → MidC N q K a0 asg seed day σ σ3 p → 3 * (N - p) ≤ kk → 130 * (N - p) ≤ nn → AW G l M_X3_comeAll (d + 8) post σ3 kk nn 17 [some (xR (some (4, 0))), some (xR (some (0, 0))), some (xI seed), some (xI day), some (xI (nI p)), none, none, none] [] := by
    intro f
    induction f with
    | zero =>
      intro p σ3 kk nn hf hp M hkk hnn
      have e : p = N := by omega
      subst e
      have A0 := M.1.2.2.2.2.1 0 p _ (by decide) (by omega) hP.2.1
      exact vc_X3_comeAll_17 (d := d + 7) (c_size A0 ⟨fun _ => h σ3 M, fun c => absurd (nI_le (Nat.le_refl p) (by omega)) c⟩)
    | succ f ih =>
      intro p σ3 kk nn hf hp M hkk hnn
      have M0 := M
      obtain ⟨F, c3, A3, T3, ord, O3, B3⟩ := M
      have hpN : p < N := by omega
      have A0 := F.2.2.2.2.1 0 N _ (by decide) (by omega) hP.2.1
      have S3 := F.st hS
      have r11 : gR σ3 6 11 p = (asg p).map (fun a => (2, a0 + a)) := ((F.1 6 (by decide)).2.2.1 11 p).trans (hA.1 p hpN)
      refine vc_X3_comeAll_17 (d := d + 7) (c_size A0 ⟨fun c => absurd ((nI_leI (by omega) (by omega)).mp c) (by omega), fun _ => c_get A0 hpN ⟨p, rfl, fun c => ?_, fun n c => ?_⟩⟩)
      · have hn : asg p = none := by
          rw [r11] at c
          cases z : asg p with
          | none => rfl
          | some a => rw [z] at c; cases c
        have eC : cAll asg (p + 1) = cAll asg p := by rw [cAll, if_pos hn]; rfl
        rw [nI_1]
        refine ih (p + 1) σ3 kk nn (by omega) (by omega) ?_ (by omega) (by omega)
        refine ⟨F, by rw [eC]; exact c3, by rw [eC]; exact A3, fun x hx a ha => ?_, ord, ?_, by rw [eC]; exact B3⟩
        · by_cases z : x = p
          · rw [z, hn] at ha; cases ha
          · exact T3 x (by omega) a ha
        · rw [eC]
          refine ⟨O3.1, fun j hj => ⟨by have := (O3.2.1 j hj).1; omega, (O3.2.1 j hj).2⟩, fun x hx hxn => ?_⟩
          by_cases z : x = p
          · rw [z] at hxn; exact absurd hn hxn
          · exact O3.2.2 x (by omega) hxn
      · obtain ⟨a, ha⟩ : ∃ a, asg p = some a := by
          rw [r11] at c
          cases z : asg p with
          | none => rw [z] at c; cases c
          | some a => exact ⟨a, rfl⟩
        have r11' : gR σ3 6 11 p = some (2, a0 + a) := by rw [r11, ha]; rfl
        have hne : asg p ≠ none := by rw [ha]; simp
        have eC : cAll asg (p + 1) = cAll asg p + 1 := by rw [cAll, if_neg hne]
        have hcle := cAll_le (asg := asg) p
        refine ⟨a0 + a, by rw [r11'] at c; cases c; rfl, AMet.of rfl (Nat.le_of_ble_eq_true rfl) (vc_X3_following ?_)⟩
        refine ⟨kk - 1, nn - 9, by omega, by omega, ?_⟩
        rw [r11']
        refine AMet.of rfl (Nat.le_of_ble_eq_true rfl) (vc_X10_init ?_)
        have g22 : gI σ3 2 2 (a0 + a) = gI σ 2 2 (a0 + a) := (F.1 2 (by decide)).2.1 2 _
        -- the new turn
        have K11 : sameK (fun c => c ≠ 11) σ3 (sI (sI (sR (sI (sR (nO σ3 11) 11 0 (cnt σ3 11) (some (6, p))) 11 1 (cnt σ3 11) day) 11 2 (cnt σ3 11) (some (2, a0 + a))) 11 3 (cnt σ3 11) (gI (nO σ3 11) 2 1 (a0 + a))) 11 4 (cnt σ3 11) (gI (sI (sR (sI (sR (nO σ3 11) 11 0 (cnt σ3 11) (some (6, p))) 11 1 (cnt σ3 11) day) 11 2 (cnt σ3 11) (some (2, a0 + a))) 11 3 (cnt σ3 11) (gI (nO σ3 11) 2 1 (a0 + a))) 2 2 (a0 + a) + late seed day p)) := fun c hc => (((((eqK_nO hc).tr (eqK_sR hc)).tr (eqK_sI hc)).tr (eqK_sR hc)).tr (eqK_sI hc)).tr (eqK_sI hc)
        have e22 : gI (sI (sR (sI (sR (nO σ3 11) 11 0 (cnt σ3 11) (some (6, p))) 11 1 (cnt σ3 11) day) 11 2 (cnt σ3 11) (some (2, a0 + a))) 11 3 (cnt σ3 11) (gI (nO σ3 11) 2 1 (a0 + a))) 2 2 (a0 + a) = gI σ 2 2 (a0 + a) := by
          rw [gI_o (fun e => absurd e.1 (by decide)), gI_sR, gI_o (fun e => absurd e.1 (by decide)), gI_sR, gI_nO, if_neg (fun e => absurd e.1 (by decide))]; exact g22
        have e21 : gI (nO σ3 11) 2 1 (a0 + a) = gI σ3 2 1 (a0 + a) := by rw [gI_nO, if_neg (fun e => absurd e.1 (by decide))]
        rw [e22, e21] at K11
        have O11 : oldO (cnt σ3 11) σ3 (sI (sI (sR (sI (sR (nO σ3 11) 11 0 (cnt σ3 11) (some (6, p))) 11 1 (cnt σ3 11) day) 11 2 (cnt σ3 11) (some (2, a0 + a))) 11 3 (cnt σ3 11) (gI σ3 2 1 (a0 + a))) 11 4 (cnt σ3 11) (gI σ 2 2 (a0 + a) + late seed day p)) 11 := (((((oldO_new (Nat.le_refl _)).tr (oldO_sR (Nat.le_refl _))).tr (oldO_sI (Nat.le_refl _))).tr (oldO_sR (Nat.le_refl _))).tr (oldO_sI (Nat.le_refl _))).tr (oldO_sI (Nat.le_refl _))
        have T11 : TurnR (sI (sI (sR (sI (sR (nO σ3 11) 11 0 (cnt σ3 11) (some (6, p))) 11 1 (cnt σ3 11) day) 11 2 (cnt σ3 11) (some (2, a0 + a))) 11 3 (cnt σ3 11) (gI σ3 2 1 (a0 + a))) 11 4 (cnt σ3 11) (gI σ 2 2 (a0 + a) + late seed day p)) (cnt σ3 11) p (a0 + a) day (gI σ 2 2 (a0 + a) + late seed day p) := by
          refine ⟨?_, ?_, ?_, ?_, gI_self, ?_⟩
          · rw [gR_sI, gR_sI, gR_sR, if_neg (fun e => absurd e.2.1 (by decide)), gR_sI, gR_self]
          · rw [gI_o (fun e => absurd e.2.1 (by decide)), gI_o (fun e => absurd e.2.1 (by decide)), gI_sR, gI_self]
          · rw [gR_sI, gR_sI, gR_self]
          · rw [gI_o (fun e => absurd e.2.1 (by decide)), gI_self, (K11 2 (by decide)).2.1]
          · rw [gR_sI, gR_sI, gR_sR, if_neg (fun e => absurd e.2.1 (by decide)), gR_sI, gR_sR, if_neg (fun e => absurd e.2.1 (by decide)), gR_nO, if_pos ⟨rfl, rfl⟩]
        have C11 : cnt (sI (sI (sR (sI (sR (nO σ3 11) 11 0 (cnt σ3 11) (some (6, p))) 11 1 (cnt σ3 11) day) 11 2 (cnt σ3 11) (some (2, a0 + a))) 11 3 (cnt σ3 11) (gI σ3 2 1 (a0 + a))) 11 4 (cnt σ3 11) (gI σ 2 2 (a0 + a) + late seed day p)) 11 = cnt σ3 11 + 1 := by
          rw [cnt_sI, cnt_sI, cnt_sR, cnt_sI, cnt_sR, cnt_nO, if_pos rfl]
        rw [e21]
        have F4a : CF (cnt σ3 11) (fun _ => True) σ3 (sI (sR (sI (sR (nO σ3 11) 11 0 (cnt σ3 11) (some (6, p))) 11 1 (cnt σ3 11) day) 11 2 (cnt σ3 11) (some (2, a0 + a))) 11 3 (cnt σ3 11) (gI σ3 2 1 (a0 + a))) := CF.of11 (fun c hc => ((((eqK_nO hc).tr (eqK_sR hc)).tr (eqK_sI hc)).tr (eqK_sR hc)).tr (eqK_sI hc)) ((((oldO_new (Nat.le_refl _)).tr (oldO_sR (Nat.le_refl _))).tr (oldO_sI (Nat.le_refl _))).tr (oldO_sR (Nat.le_refl _)) |>.tr (oldO_sI (Nat.le_refl _)))
        refine ⟨F4a.st S3, a0 + a, ((F4a.1 6 (by decide)).2.2.1 11 p).trans r11', 1, 60, kk - 2, nn - 69, by omega, by omega, ?_⟩
        rw [← e21, e22, e21]
        show AMet G l M_Jx4a65c_add_9ea2d (d + 7) 1 60 [xR (some (0, 3)), xR (some (11, cnt σ3 11))] (sI (sI (sR (sI (sR (nO σ3 11) 11 0 (cnt σ3 11) (some (6, p))) 11 1 (cnt σ3 11) day) 11 2 (cnt σ3 11) (some (2, a0 + a))) 11 3 (cnt σ3 11) (gI σ3 2 1 (a0 + a))) 11 4 (cnt σ3 11) (gI σ 2 2 (a0 + a) + late seed day p)) _
        generalize sI (sI (sR (sI (sR (nO σ3 11) 11 0 (cnt σ3 11) (some (6, p))) 11 1 (cnt σ3 11) day) 11 2 (cnt σ3 11) (some (2, a0 + a))) 11 3 (cnt σ3 11) (gI σ3 2 1 (a0 + a))) 11 4 (cnt σ3 11) (gI σ 2 2 (a0 + a) + late seed day p) = σ4 at *
        have F4 : CF (cnt σ3 11) (fun _ => True) σ3 σ4 := CF.of11 K11 O11
        have hW3 : LW σ3 := F.2.2.2.1 hW
        have hc0 : cnt σ3 0 = cnt σ 0 := F.2.2.1
        have hW4 : LW σ4 := F4.2.2.2.1 hW3
        have hc04 : cnt σ4 0 = cnt σ 0 := F4.2.2.1.trans hc0
        have A4 := F4.2.2.2.2.1 3 _ _ trivial (by omega) A3
        have B4 := F4.2.2.2.2.1 4 _ _ trivial (by omega) B3
        have hcN := cAll_lt N hpN hne
        have hcN2 := cAll_le (asg := asg) N
        refine c_add hW4 (by omega) A4 (by show 11 < 14; omega) (by omega) (Or.inr ⟨Nat.le_refl _, by unfold ncap; split <;> omega⟩) (fun σ5 D5 A5 _ => ?_)
        refine ⟨1, 60, kk - 3, nn - 129, by omega, by omega, ?_⟩
        have F5 : CF (cnt σ4 11) (fun q => q ≠ 3 ∧ q ≠ 4) σ4 σ5 := CF.add D5 (fun z => z.1 rfl)
        have B5 := D5.2.2.2.1 4 _ _ (by decide) (by omega) B4
        have S5 := F5.st (F4.st S3)
        have T5 := T11.keep F5 (by omega)
        have g4 : ∀ x, x < p → ∀ b, asg x = some b → gI σ5 11 4 (cnt σ 11 + cAll asg x) = gI σ 2 2 (a0 + b) + late seed day x := fun x hx b hb => by
          have k := T3 x hx b hb
          have hlt := cAll_lt (asg := asg) p hx (by rw [hb]; simp)
          have k1 := k.keep F4 (by omega)
          exact (k1.keep F5 (by omega)).2.2.2.2.1
        have gO : ∀ j, j < cAll asg p → gI σ5 11 4 (cnt σ 11 + cAll asg (ord j)) = (match asg (ord j) with | some a => gI σ 2 2 (a0 + a) + late seed day (ord j) | none => 0) := fun j hj => by
          have k := O3.2.1 j hj
          cases z : asg (ord j) with
          | none => exact absurd z k.2
          | some b => exact g4 (ord j) k.1 b z
        refine c_queue (c := gI σ 2 2 (a0 + a) + late seed day p) S5 D5.2.2.1 (by rw [D5.2.1]; omega) B5 T5.2.2.2.2.1 (by omega) (Nat.le_refl _) (Nat.le_refl _) (fun σ6 i D6 hi hle hgt A6 => ?_)
        have F6 : CF (cnt σ5 11) (fun q => q ≠ 3 ∧ q ≠ 4) σ5 σ6 := CF.add D6 (fun z => z.2 rfl)
        rw [nI_1]
        have c411 : cnt σ4 11 = cnt σ3 11 + 1 := C11
        have c511 : cnt σ5 11 = cnt σ4 11 := (D5.1 11 (by decide)).1
        have c611 : cnt σ6 11 = cnt σ5 11 := (D6.1 11 (by decide)).1
        have cp : (match asg p with | some a => gI σ 2 2 (a0 + a) + late seed day p | none => 0) = gI σ 2 2 (a0 + a) + late seed day p := by rw [ha]
        have mono : ∀ {t : Nat} {Q Q' : Nat → Prop} {τ τ' : AS}, CF t Q τ τ' → ∀ t', t' ≤ t → (∀ x, Q' x → Q x) → CF t' Q' τ τ' := fun F t' ht hQ => ⟨F.1, F.2.1.mono ht, ⟨F.2.2.1, F.2.2.2.1, fun q n e hq => F.2.2.2.2.1 q n e (hQ q hq), fun q hq => F.2.2.2.2.2 q (hQ q hq)⟩⟩
        have Fall : CF (cnt σ 11) (fun q => q ≠ 3 ∧ q ≠ 4) σ σ6 := F.tr (((mono F4 _ (by omega) (fun _ _ => trivial)).tr (mono F5 _ (by omega) (fun _ z => z))).tr (mono F6 _ (by omega) (fun _ z => z)))
        have hO := O3.ins hne hi (fun j hj => by
          show (match asg (ord j) with | some a => gI σ 2 2 (a0 + a) + late seed day (ord j) | none => 0) ≤ (match asg p with | some a => gI σ 2 2 (a0 + a) + late seed day p | none => 0)
          rw [cp, ← gO j (by omega)]; exact hle j hj) (fun hj => by
          show (match asg p with | some a => gI σ 2 2 (a0 + a) + late seed day p | none => 0) < (match asg (ord i) with | some a => gI σ 2 2 (a0 + a) + late seed day (ord i) | none => 0)
          rw [cp, ← gO i hj]; exact hgt hj)
        refine ih (p + 1) σ6 _ _ (by omega) (by omega) ⟨Fall, by rw [c611, c511, c411, c3, eC]; omega, ?_, fun x hx b hb => ?_, _, by rw [eC]; exact hO, ?_⟩ (by omega) (by omega)
        · have A6' := D6.2.2.2.1 3 _ _ (by decide) (by rw [D5.2.1]; omega) A5
          rw [eC]
          obtain ⟨y, b1, b2, b3, b4, b5, b6⟩ := A6'
          refine ⟨y, b1, b2, b3, b4, fun i hi => ?_, b6⟩
          rw [b5 i hi]
          show some (if i = cAll asg p then (11, cnt σ3 11) else (11, cnt σ 11 + i)) = some (11, cnt σ 11 + i)
          by_cases w : i = cAll asg p
          · rw [if_pos w, w, c3]
          · rw [if_neg w]
        · by_cases z : x = p
          · subst z
            rw [ha] at hb; cases hb
            rw [← c3]
            exact T5.keep F6 (by omega)
          · have hlt := cAll_lt (asg := asg) p (show x < p by omega) (by rw [hb]; simp)
            have k := T3 x (by omega) b hb
            exact ((k.keep F4 (by omega)).keep F5 (by omega)).keep F6 (by omega)
        · rw [eC]
          obtain ⟨y, b1, b2, b3, b4, b5, b6⟩ := A6
          refine ⟨y, b1, b2, b3, b4, fun j hj => ?_, b6⟩
          rw [b5 j hj]
          show some (if j < i then ((11 : Nat), cnt σ 11 + cAll asg (ord j)) else if j = i then (11, cnt σ3 11) else (11, cnt σ 11 + cAll asg (ord (j - 1)))) = some (11, cnt σ 11 + cAll asg (if j < i then ord j else if j = i then p else ord (j - 1)))
          by_cases w : j < i
          · rw [if_pos w, if_pos w]
          · rw [if_neg w, if_neg w]
            by_cases w2 : j = i
            · rw [if_pos w2, if_pos w2, c3]
            · rw [if_neg w2, if_neg w2]
  have k := loop N 0 σ2 kk nn rfl (Nat.zero_le _) ⟨F2, c11, D2.2.2.2.1 3 _ _ (by decide) (by rw [D1.2.1]; omega) A1, fun x hx => absurd hx (Nat.not_lt_zero x), fun _ => 0, ⟨fun i j _ hj => absurd hj (Nat.not_lt_zero j), fun j hj => absurd hj (Nat.not_lt_zero j), fun q hq => absurd hq (Nat.not_lt_zero q)⟩, A2⟩ hkk hnn
  rw [nI_0] at k
  exact k
end COME
