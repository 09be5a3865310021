/-! Calls of the class: feed, buses, count, retake. -/
section OPS2
variable {G : GG} {l : Launch} {d : Nat} {post : Option AVal → AS → Prop} {σ : AS} {kk nn : Nat}
/-- only row r changes, whose array has number a -/
def TP (r a : Nat) (σ σ' : AS) : Prop := sameK (fun c => c ≠ 8 ∧ c ≠ 20) σ σ' ∧ (∀ c, cnt σ' c = cnt σ c) ∧ (∀ c f i, gR σ' c f i = gR σ c f i) ∧ (∀ c i, gN σ' c i = gN σ c i) ∧ (∀ r', r' ≠ r → gI σ' 8 1 r' = gI σ 8 1 r') ∧ ∀ a' j, a' ≠ a → gA σ' 20 a' j = gA σ 20 a' j
theorem TP.rf {r a : Nat} : TP r a σ σ := ⟨sameK.rf, fun _ => rfl, fun _ _ _ => rfl, fun _ _ => rfl, fun _ _ => rfl, fun _ _ _ => rfl⟩
theorem TP.tr {r a : Nat} {σ1 σ2 : AS} (h : TP r a σ σ1) (k : TP r a σ1 σ2) : TP r a σ σ2 := ⟨h.1.tr k.1, fun c => (k.2.1 c).trans (h.2.1 c), fun c f i => (k.2.2.1 c f i).trans (h.2.2.1 c f i), fun c i => (k.2.2.2.1 c i).trans (h.2.2.2.1 c i), fun r' z => (k.2.2.2.2.1 r' z).trans (h.2.2.2.2.1 r' z), fun a' j z => (k.2.2.2.2.2 a' j z).trans (h.2.2.2.2.2 a' j z)⟩
theorem TP.st {r a : Nat} {σ' : AS} (h : TP r a σ σ') (hS : St σ) : St σ' := hS.of fun c _ => ⟨fun f i _ => h.2.2.1 c f i, fun i _ => h.2.2.2.1 c i, Nat.le_of_eq (h.2.1 c).symm⟩
theorem TP.add {r n : Nat} {v : Int32} {σ' : AS} (h : RAdd σ σ' r n v) : TP r (rArr r) σ σ' := ⟨h.1, h.2.1, h.2.2.1, h.2.2.2.1, h.2.2.2.2.2.1, fun a' j z => by rw [h.2.2.2.2.2.2, if_neg (fun e => z e.1)]⟩
theorem TP.size {r a : Nat} {v : Int32} : TP r a σ (sI σ 8 1 r v) := ⟨fun c hc => eqK_sI hc.1, fun _ => rfl, fun _ _ _ => rfl, fun _ _ => rfl, fun r' z => gI_o (fun e => z e.2.2), fun _ _ _ => rfl⟩
def byt (x s : Int32) : Int32 := ((x.toUInt32 >>> (s.toUInt32 &&& Int32.toUInt32 31)).toInt32) &&& 255
/-- the four bytes of x behind the n of b -/
def put4 (b : Nat → Int32) (n : Nat) (x : Int32) : Nat → Int32 := snoc (snoc (snoc (snoc b n (byt x 24)) (n + 1) (byt x 16)) (n + 2) (byt x 8)) (n + 3) (byt x 0)
theorem c_addBytes {n : Nat} {b : Nat → Int32} {x : Int32} (hS : St σ) (hR : RW σ 0 n b) (hn : n + 4 ≤ 1000) (h : ∀ σ', TP 0 0 σ σ' → RW σ' 0 (n + 4) (put4 b n x) → post none σ') : AMet G l M_X11_addBytes (d + 1) 0 0 [xR (some (12, 0)), xI x] σ post := by
  refine AMet.of rfl (Nat.le_of_ble_eq_true rfl) (vc_X11_addBytes (d := d) ?_)
  refine vc_X11_addBytes_3 (d := d) hS ⟨fun c => absurd c (by decide), fun _ => c_radd hS (by decide) hR (by show n < 1000; omega) (fun σ1 A1 => ?_)⟩
  have R1 := A1.self hS (by decide) (by show n < 1000; omega) hR
  have S1 := A1.st hS
  rw [show (24 : Int32) + (-8) = 16 by decide]
  refine vc_X11_addBytes_3 (d := d) S1 ⟨fun c => absurd c (by decide), fun _ => c_radd S1 (by decide) R1 (by show n + 1 < 1000; omega) (fun σ2 A2 => ?_)⟩
  have R2 := A2.self S1 (by decide) (by show n + 1 < 1000; omega) R1
  have S2 := A2.st S1
  rw [show (16 : Int32) + (-8) = 8 by decide]
  refine vc_X11_addBytes_3 (d := d) S2 ⟨fun c => absurd c (by decide), fun _ => c_radd S2 (by decide) R2 (by show n + 2 < 1000; omega) (fun σ3 A3 => ?_)⟩
  have R3 := A3.self S2 (by decide) (by show n + 2 < 1000; omega) R2
  have S3 := A3.st S2
  rw [show (8 : Int32) + (-8) = 0 by decide]
  refine vc_X11_addBytes_3 (d := d) S3 ⟨fun c => absurd c (by decide), fun _ => c_radd S3 (by decide) R3 (by show n + 3 < 1000; omega) (fun σ4 A4 => ?_)⟩
  have R4 := A4.self S3 (by decide) (by show n + 3 < 1000; omega) R3
  have S4 := A4.st S3
  rw [show (0 : Int32) + (-8) = -8 by decide]
  exact vc_X11_addBytes_3 (d := d) S4 ⟨fun _ => h σ4 ((((TP.add A1).tr (TP.add A2)).tr (TP.add A3)).tr (TP.add A4)) R4, fun c => absurd (by decide) c⟩
def put20 (b : Nat → Int32) (n : Nat) (x1 x2 x3 x4 x5 : Int32) : Nat → Int32 := put4 (put4 (put4 (put4 (put4 b n x1) (n + 4) x2) (n + 8) x3) (n + 12) x4) (n + 16) x5
theorem c_feed {n : Nat} {b : Nat → Int32} {x1 x2 x3 x4 x5 : Int32} (hS : St σ) (hR : RW σ 0 n b) (h0 : ¬ n + 20 ≤ 1000 → post (some (xI (-1))) σ) (h1 : n + 20 ≤ 1000 → ∀ σ', TP 0 0 σ σ' → RW σ' 0 (n + 20) (put20 b n x1 x2 x3 x4 x5) → post (some (xI (nI (n + 20)))) σ') : AMet G l M_X11_feed (d + 2) 0 0 [xR (some (12, 0)), xI x1, xI x2, xI x3, xI x4, xI x5] σ post := by
  have hn := hR.lt
  refine AMet.of rfl (Nat.le_of_ble_eq_true rfl) (vc_X11_feed (d := d + 1) hS ?_)
  rw [hR.size, show (20 : Int32) = nI 20 by decide, nI_add]
  refine ⟨fun c => ?_, fun c => h0 (fun z => c (nI_le z (by decide)))⟩
  have hle : n + 20 ≤ 1000 := (nI_leI (b := 1000) (by omega) (by decide)).mp c
  refine c_addBytes hS hR (by omega) (fun σ1 F1 R1 => c_addBytes (F1.st hS) R1 (by omega) (fun σ2 F2 R2 => c_addBytes (F2.st (F1.st hS)) R2 (by omega) (fun σ3 F3 R3 => c_addBytes (F3.st (F2.st (F1.st hS))) R3 (by omega) (fun σ4 F4 R4 => c_addBytes (F4.st (F3.st (F2.st (F1.st hS)))) R4 (by omega) (fun σ5 F5 R5 => ⟨F5.st (F4.st (F3.st (F2.st (F1.st hS)))), ?_⟩)))))
  rw [R5.size]
  exact h1 hle σ5 ((((F1.tr F2).tr F3).tr F4).tr F5) R5
/-- how many of the first n are called from a home -/
def ridN (asg : Nat → Option Nat) (home : Nat → Int32) (x : Int32) : Nat → Nat
  | 0 => 0
  | n + 1 => ridN asg home x n + (if asg n ≠ none ∧ home n = x then 1 else 0)
theorem ridN_le {asg : Nat → Option Nat} {home : Nat → Int32} {x : Int32} : ∀ n, ridN asg home x n ≤ n
  | 0 => Nat.le_refl _
  | n + 1 => by
    have := ridN_le (asg := asg) (home := home) (x := x) n
    rw [ridN]; split <;> omega
theorem c_buses {N q K a0 : Nat} {asg : Nat → Option Nat} {x y : Int32} (hP : PicS N q K a0 σ) (hA : Seat N K a0 σ asg) (h0 : ¬ ((¬ x < 0 ∧ ¬ 3 < x) ∧ (¬ y < 1 ∧ ¬ 100 < y)) → post (some (xI (-1))) σ) (h1 : (¬ x < 0 ∧ ¬ 3 < x) → (¬ y < 1 ∧ ¬ 100 < y) → post (some (xI ((nI (ridN asg (fun p => gI σ 6 4 p) x N) + y - 1) / y))) σ) : AMet G l M_X11_buses (d + 4) 0 0 [xR (some (12, 0)), xI x, xI y] σ post := by
  have hN := hP.2.2.1
  refine AMet.of rfl (Nat.le_of_ble_eq_true rfl) (vc_X11_buses (d := d + 3) (c_withinB (fun z => ⟨fun _ => h0 (fun w => z w.1), fun z2 => absurd rfl z2⟩) (fun z1 => ⟨fun z => absurd z (by decide), fun _ => c_withinB (fun z => ⟨fun z2 => absurd rfl z2, fun _ => h0 (fun w => z w.2)⟩) (fun z2 => ⟨fun _ => ?_, fun z => absurd z (by decide)⟩)⟩)))
  have hy0 : ¬ y = 0 := fun e => by subst e; exact z2.1 (by decide)
  have loop : ∀ (f k : Nat), N - k = f → k ≤ N → AW G l M_X11_buses (d + 4) post σ 0 0 26 [some (xR (some (12, 0))), some (xI x), some (xI y), some (xI (nI (ridN asg (fun p => gI σ 6 4 p) x k))), some (xI (nI k)), none] [] := by
    intro f
    induction f with
    | zero =>
      intro k hf hk
      have e : k = N := by omega
      subst e
      exact vc_X11_buses_26 (d := d + 3) hP.1 (c_size hP.2.1 ⟨hP.1, fun _ => ⟨hy0, h1 z1 z2⟩, fun c => absurd (nI_le (Nat.le_refl k) (by omega)) c⟩)
    | succ f ih =>
      intro k hf hk
      have step : ∀ b, (b = if asg k ≠ none ∧ gI σ 6 4 k = x then 1 else 0) → AW G l M_X11_buses (d + 4) post σ 0 0 26 [some (xR (some (12, 0))), some (xI x), some (xI y), some (xI (nI (ridN asg (fun p => gI σ 6 4 p) x k + b))), some (xI (nI (k + 1))), none] [] := fun b hb => by
        have z := ih (k + 1) (by omega) (by omega)
        rw [ridN] at z
        rw [hb]; exact z
      refine vc_X11_buses_26 (d := d + 3) hP.1 (c_size hP.2.1 ⟨hP.1, fun c => absurd ((nI_leI (by omega) (by omega)).mp c) (by omega), fun _ => c_get hP.2.1 (show k < N by omega) ⟨k, rfl, fun c => ?_, fun n c => ?_⟩⟩)
      · rw [nI_1]
        refine step 0 ?_
        rw [hA.1 k (by omega)] at c
        rw [if_neg (fun z => z.1 (by cases w : asg k with | none => rfl | some a => rw [w] at c; cases c))]
      · obtain ⟨a, ha⟩ : ∃ a, asg k = some a := by
          rw [hA.1 k (by omega)] at c
          cases w : asg k with
          | none => rw [w] at c; cases c
          | some a => exact ⟨a, rfl⟩
        refine ⟨a0 + a, by rw [hA.1 k (by omega), ha] at c; cases c; rfl, fun z => ?_, fun z => ?_⟩
        · rw [nI_1]
          exact step 0 (by rw [if_neg (fun w => z w.2)])
        · rw [nI_1, nI_1]
          exact step 1 (by rw [if_pos ⟨by rw [ha]; simp, z⟩])
  have k := loop N 0 rfl (Nat.zero_le _)
  have e : ridN asg (fun p => gI σ 6 4 p) x 0 = 0 := rfl
  rw [e, nI_0] at k
  exact k
def ansC (f : Nat → Int32) (a : Int32) : Int32 := if a = 0 then f 0 else if a = 1 then f 1 else if a = 2 then f 2 else if a = 3 then f 3 else if a = 4 then f 4 else if a = 5 then f 5 else if a = 6 then f 6 else if a = 7 then f 7 else -1
theorem c_count {N q K a0 A R n t : Nat} {asg : Nat → Option Nat} {eA eR : Nat → Nm} {b P : Nat → Int32} {x : Int32} (hP : PicS N q K a0 σ) (hA : Seat N K a0 σ asg) (h1 : AL σ 1 A eA) (h5 : AL σ 5 R eR) (hR0 : RW σ 0 t b) (hR2 : RW σ 2 n P) (h : post (some (xI (ansC (fun i => match i with | 0 => nI N | 1 => nI K | 2 => nI A | 3 => nI n | 4 => gI σ 12 10 0 | 5 => nI (cAll asg N) | 6 => nI t | _ => nI R) x))) σ) : AMet G l M_X11_count (d + 5) 0 0 [xR (some (12, 0)), xI x] σ post := by
  have hS := hP.1
  refine AMet.of rfl (Nat.le_of_ble_eq_true rfl) (vc_X11_count (d := d + 4) hS ⟨fun c => c_size hP.2.1 ?_, fun c => ⟨q, hP.2.2.2.2.2.1, c_size hP.2.2.2.2.2.2.1 ?_⟩, fun c => c_size h1 ?_, fun c => AMet.of rfl (Nat.le_of_ble_eq_true rfl) (vc_X4_size hS ?_), fun c => ?_, fun c => c_psize hP hA ?_, fun c => ?_, fun c => c_size h5 ?_, fun c => ?_⟩)
  · subst c; exact h
  · subst c; exact h
  · subst c; exact h
  · subst c; rw [hR2.size]; exact h
  · subst c; exact h
  · subst c; exact h
  · subst c; rw [hR0.size]; exact h
  · subst c; exact h
  · have z : ∀ k : Int32, (0 ≤ k.toInt ∧ k.toInt ≤ 7) → ¬ x = k := fun k hk e => by subst e; omega
    rw [ansC, if_neg (z 0 (by decide)), if_neg (z 1 (by decide)), if_neg (z 2 (by decide)), if_neg (z 3 (by decide)), if_neg (z 4 (by decide)), if_neg (z 5 (by decide)), if_neg (z 6 (by decide)), if_neg (z 7 (by decide))] at h
    exact h
/-- who lacks at a minute of all time -/
def lackB (f : Nat → Int32) (sc lim : Int32) : Bool := jb (f 9) sc && !(decide (f 6 = 0) && !decide (lim < f 8))
def lackL (F : Nat → Nat → Int32) (sc lim : Int32) : Nat → List Nat
  | 0 => []
  | n + 1 => lackL F sc lim n ++ (if lackB (F n) sc lim = true then [n] else [])
theorem lackL_le {F : Nat → Nat → Int32} {sc lim : Int32} : ∀ n, (lackL F sc lim n).length ≤ n
  | 0 => Nat.le_refl _
  | n + 1 => by
    have := lackL_le (F := F) (sc := sc) (lim := lim) n
    rw [lackL, List.length_append]
    split <;> simp <;> omega
theorem c_retake {N q K a0 : Nat} {sc mi day : Int32} (hP : PicS N q K a0 σ) (hd' : gI σ 12 10 0 = day) (h0 : ¬ ((¬ sc < 0 ∧ ¬ 19 < sc) ∧ (¬ mi < 0 ∧ ¬ 1439 < mi)) → post (some (xI (-1))) σ) (h1 : (¬ sc < 0 ∧ ¬ 19 < sc) → (¬ mi < 0 ∧ ¬ 1439 < mi) → ∀ σ', TP 5 6 σ σ' → RW σ' 5 (lackL (fun p f => gI σ 6 f p) sc (1440 * day + mi) N).length (fun i => nI ((lackL (fun p f => gI σ 6 f p) sc (1440 * day + mi) N).getD i 0)) → post (some (xI (nI (lackL (fun p f => gI σ 6 f p) sc (1440 * day + mi) N).length))) σ') : AMet G l M_X11_retake (d + 4) 0 0 [xR (some (12, 0)), xI sc, xI mi] σ post := by
  have hN := hP.2.2.1
  refine AMet.of rfl (Nat.le_of_ble_eq_true rfl) (vc_X11_retake (d := d + 3) (c_isScene (fun c => ⟨fun _ => h0 (fun z => c.elim z.1.1 z.1.2), fun z => absurd rfl z⟩) (fun c1 c2 => ⟨fun z => absurd z (by decide), fun _ => c_withinB (fun z => ⟨hP.1, fun z2 => absurd rfl z2, fun _ => h0 (fun w => z w.2)⟩) (fun z2 => ⟨hP.1, fun _ => ?_, fun z => absurd z (by decide)⟩)⟩)))
  have loop : ∀ (f k : Nat) (σ1 : AS), N - k = f → k ≤ N → TP 5 6 σ σ1 → RW σ1 5 (lackL (fun p f => gI σ 6 f p) sc (1440 * day + mi) k).length (fun i => nI ((lackL (fun p f => gI σ 6 f p) sc (1440 * day + mi) k).getD i 0)) → AW G l M_X11_retake (d + 4) post σ1 0 0 30 [some (xR (some (12, 0))), some (xI sc), some (xI mi), some (xI (nI k)), none, none] [] := by
    intro f
    induction f with
    | zero =>
      intro k σ1 hf hk F W
      have e : k = N := by omega
      subst e
      have S1 := F.st hP.1
      have A1 : AL σ1 0 k (fun p => (6, p)) := hP.2.1.same (F.1.sub (fun c hc => by rcases hc with rfl | rfl <;> decide))
      refine vc_X11_retake_30 (d := d + 3) S1 (c_size A1 ⟨S1, fun _ => ?_, fun c => absurd (nI_le (Nat.le_refl k) (by omega)) c⟩)
      rw [W.size]
      exact h1 ⟨c1, c2⟩ z2 σ1 F W
    | succ f ih =>
      intro k σ1 hf hk F W
      have S1 := F.st hP.1
      have A1 : AL σ1 0 N (fun p => (6, p)) := hP.2.1.same (F.1.sub (fun c hc => by rcases hc with rfl | rfl <;> decide))
      have g6 : ∀ f, gI σ1 6 f k = gI σ 6 f k := fun f => (F.1 6 (by decide)).2.1 f k
      have g12 : gI σ1 12 10 0 = day := ((F.1 12 (by decide)).2.1 10 0).trans hd'
      have hlen := lackL_le (F := fun p f => gI σ 6 f p) (sc := sc) (lim := 1440 * day + mi) k
      have no : lackB (fun f => gI σ 6 f k) sc (1440 * day + mi) = false → AW G l M_X11_retake (d + 4) post σ1 0 0 30 [some (xR (some (12, 0))), some (xI sc), some (xI mi), some (xI (nI k + 1)), none, none] [] := fun z => by
        rw [nI_1]
        refine ih (k + 1) σ1 (by omega) (by omega) F ?_
        rw [lackL, if_neg (by rw [z]; decide), List.append_nil]; exact W
      have yes : lackB (fun f => gI σ 6 f k) sc (1440 * day + mi) = true → AMet G l M_X7_add (d + 3) 0 0 [xR (some (8, 5)), xI (nI k)] σ1 (retV (fun σ12 => AW G l M_X11_retake (d + 4) post σ12 0 0 30 [some (xR (some (12, 0))), some (xI sc), some (xI mi), some (xI (nI k + 1)), none, none] [])) := fun z => by
        refine c_radd S1 (by decide) W (by show _ < 40; omega) (fun σ2 D2 => ?_)
        rw [nI_1]
        refine ih (k + 1) σ2 (by omega) (by omega) (F.tr (TP.add D2)) ?_
        have W2 := D2.self S1 (by decide) (by show _ < 40; omega) W
        rw [lackL, if_pos z, List.length_append]
        refine W2.fits (fun i hi => ?_)
        by_cases c : i = (lackL (fun p f => gI σ 6 f p) sc (1440 * day + mi) k).length
        · rw [if_pos c, c]
          simp [List.getD_eq_getElem?_getD]
        · rw [if_neg c]
          have : i < (lackL (fun p f => gI σ 6 f p) sc (1440 * day + mi) k).length := by omega
          simp [List.getD_eq_getElem?_getD, List.getElem?_append_left this]
      refine vc_X11_retake_30 (d := d + 3) S1 (c_size A1 ⟨S1, fun c => absurd ((nI_leI (by omega) (by omega)).mp c) (by omega), fun _ => c_get A1 (show k < N by omega) ⟨k, rfl, ?_⟩⟩)
      rw [g6 6, g6 8, g12]
      refine ⟨fun c => c_wasIn ?_, fun c => ⟨fun c3 => c_wasIn ?_, fun c3 => c_wasIn ?_⟩⟩
      · rw [g6 9]
        have e : lackB (fun f => gI σ 6 f k) sc (1440 * day + mi) = jb (gI σ 6 9 k) sc := by
          unfold lackB; simp [c]
        exact ⟨S1, fun z => no (by rw [e]; exact bI_eq.mp z), fun z => yes (by rw [e]; exact bI_ne.mp z)⟩
      · rw [g6 9]
        have e : lackB (fun f => gI σ 6 f k) sc (1440 * day + mi) = jb (gI σ 6 9 k) sc := by
          unfold lackB; simp [c, c3]
        exact ⟨S1, fun z => no (by rw [e]; exact bI_eq.mp z), fun z => yes (by rw [e]; exact bI_ne.mp z)⟩
      · have e : lackB (fun f => gI σ 6 f k) sc (1440 * day + mi) = false := by
          unfold lackB; simp [c, c3]
        exact ⟨fun _ => no e, fun _ => no e⟩
  have S0 : St (sI σ 8 1 5 0) := hP.1.sI
  have k := loop N 0 (sI σ 8 1 5 0) rfl (Nat.zero_le _) TP.size (RW.mk S0 (by decide) (by rw [gI_self]; exact nI_0.symm) (Nat.zero_le _) (fun i hi => absurd hi (Nat.not_lt_zero i)))
  rw [nI_0] at k
  exact k
end OPS2
