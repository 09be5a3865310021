/-! All are sent. -/
section SENDALL
variable {G : GG} {l : Launch} {d : Nat} {post : Option AVal → AS → Prop} {σ : AS} {kk nn : Nat}
theorem a_sendAll {t0 m R n a0 : Nat} {e tp ak : Nat → Nat} {P S : Nat → Int32} {day : Int32} {ag : Option Nm} (hS : St σ) (hW : LW σ) (h5 : 5 < cnt σ 0) (hA3 : AL σ 3 m (fun k => (11, t0 + k))) (hR2 : RW σ 2 n P) (hR3 : RW σ 3 n S) (hA5 : AL σ 5 R (fun i => (11, e i)))
    (hwho : ∀ k, k < m → gR σ 11 0 (t0 + k) = some (6, tp k)) (hask : ∀ k, k < m → gR σ 11 2 (t0 + k) = some (2, a0 + ak k)) (hday : ∀ k, k < m → gI σ 11 1 (t0 + k) = day) (hinj : ∀ i j, i < m → j < m → tp i = tp j → i = j) (hn : n + m ≤ 2600) (hR : R + m ≤ 2400) (hag : ∀ x, ag = some x → ∃ y, x = (1, y))
    (h : ∀ σ', MidS σ σ' t0 m R n e tp ak a0 P S day ag → post (some (xI (lastS (fun k => gI σ 2 7 (a0 + ak k) + gI σ 2 3 (a0 + ak k)) m))) σ') :
    ∀ (f k : Nat) (σ1 : AS) (kk nn : Nat), m - k = f → k ≤ m → MidS σ σ1 t0 k R n e tp ak a0 P S day ag → m - k ≤ kk → 7 * (R + m) + 40 ≤ nn + 4 * lcap σ1 5 → AW G l M_X11_sendAll (d + 8) post σ1 kk nn 38 [some (xR (some (12, 0))), some (xR ag), some (xI (lastS (fun k => gI σ 2 7 (a0 + ak k) + gI σ 2 3 (a0 + ak k)) k)), some (xI (nI k)), none] [] := by
  intro f
  induction f with
  | zero =>
    intro k σ1 kk nn hf hk M hkk hnn
    have e' : k = m := by omega
    subst e'
    have F := M.1
    exact vc_X11_sendAll_38 (d := d + 7) (F.st hS) (c_size (F.2.2.2.2.2.2.2.2.2.1 3 _ _ (by decide) (by omega) hA3) ⟨F.st hS, fun _ => h σ1 M, fun c => absurd (nI_le (Nat.le_refl k) (by omega)) c⟩)
  | succ f ih =>
    intro k σ1 kk nn hf hk M hkk hnn
    obtain ⟨F, m6, m11, mv, w2, w3, L5⟩ := M
    have hkm : k < m := by omega
    have S1 := F.st hS
    have A31 := F.2.2.2.2.2.2.2.2.2.1 3 _ _ (by decide) (by omega) hA3
    refine vc_X11_sendAll_38 (d := d + 7) S1 (c_size A31 ⟨S1, fun c => absurd ((nI_leI (by omega) (by omega)).mp c) (by omega), fun _ => c_get A31 hkm ⟨t0 + k, rfl, ?_⟩⟩)
    have r0 : gR σ1 11 0 (t0 + k) = some (6, tp k) := (F.2.2.1 0 _ (by decide)).trans (hwho k hkm)
    have r2 : gR σ1 11 2 (t0 + k) = some (2, a0 + ak k) := (F.2.2.1 2 _ (by decide)).trans (hask k hkm)
    refine AMet.of rfl (Nat.le_of_ble_eq_true rfl) (vc_X10_send ⟨a0 + ak k, r2, tp k, r0, ?_⟩)
    have k27 : gI σ1 2 7 (a0 + ak k) = gI σ 2 7 (a0 + ak k) := (F.1 2 (by decide)).2.1 7 _
    have k23 : gI σ1 2 3 (a0 + ak k) = gI σ 2 3 (a0 + ak k) := (F.1 2 (by decide)).2.1 3 _
    have k1 : gI σ1 11 1 (t0 + k) = day := (F.2.2.2.2.2.2.1 1 _ (by decide) (by decide)).trans (hday k hkm)
    have kp : ∀ f, gI σ1 6 f (tp k) = gI σ 6 f (tp k) := m6 (tp k) (fun j hj q => by have := hinj k j hkm (by omega) q; omega)
    rw [k27, k23, k1, kp 7]
    have F2 : NF σ1 (sI (sI (sR (sI (sI σ1 11 6 (t0 + k) (gI σ 2 7 (a0 + ak k))) 11 7 (t0 + k) (gI σ 2 7 (a0 + ak k) + gI σ 2 3 (a0 + ak k))) 11 8 (t0 + k) ag) 6 7 (tp k) (gI σ 6 7 (tp k) + 1)) 6 8 (tp k) (1440 * day + (gI σ 2 7 (a0 + ak k) + gI σ 2 3 (a0 + ak k)) + 660)) := (((((NF.set11 (Or.inl rfl)).tr (NF.set11 (Or.inr rfl))).tr NF.setA).tr (NF.set6 (Or.inl rfl))).tr (NF.set6 (Or.inr (Or.inl rfl))))
    have q6o : ∀ f i, i ≠ tp k → gI (sI (sI (sR (sI (sI σ1 11 6 (t0 + k) (gI σ 2 7 (a0 + ak k))) 11 7 (t0 + k) (gI σ 2 7 (a0 + ak k) + gI σ 2 3 (a0 + ak k))) 11 8 (t0 + k) ag) 6 7 (tp k) (gI σ 6 7 (tp k) + 1)) 6 8 (tp k) (1440 * day + (gI σ 2 7 (a0 + ak k) + gI σ 2 3 (a0 + ak k)) + 660)) 6 f i = gI σ1 6 f i := fun f i hi => by
      rw [gI_o (fun z => hi z.2.2), gI_o (fun z => hi z.2.2), gI_sR, gI_o (fun z => absurd z.1 (by decide)), gI_o (fun z => absurd z.1 (by decide))]
    have q69 : gI (sI (sI (sR (sI (sI σ1 11 6 (t0 + k) (gI σ 2 7 (a0 + ak k))) 11 7 (t0 + k) (gI σ 2 7 (a0 + ak k) + gI σ 2 3 (a0 + ak k))) 11 8 (t0 + k) ag) 6 7 (tp k) (gI σ 6 7 (tp k) + 1)) 6 8 (tp k) (1440 * day + (gI σ 2 7 (a0 + ak k) + gI σ 2 3 (a0 + ak k)) + 660)) 6 9 (tp k) = gI σ1 6 9 (tp k) := by
      rw [gI_o (fun z => absurd z.2.1 (by decide)), gI_o (fun z => absurd z.2.1 (by decide)), gI_sR, gI_o (fun z => absurd z.1 (by decide)), gI_o (fun z => absurd z.1 (by decide))]
    have q60 : gI (sI (sI (sR (sI (sI σ1 11 6 (t0 + k) (gI σ 2 7 (a0 + ak k))) 11 7 (t0 + k) (gI σ 2 7 (a0 + ak k) + gI σ 2 3 (a0 + ak k))) 11 8 (t0 + k) ag) 6 7 (tp k) (gI σ 6 7 (tp k) + 1)) 6 8 (tp k) (1440 * day + (gI σ 2 7 (a0 + ak k) + gI σ 2 3 (a0 + ak k)) + 660)) 6 0 (tp k) = gI σ1 6 0 (tp k) := F2.2.2.2.1 0 _ (by decide) (by decide) (by decide)
    have q67 : gI (sI (sI (sR (sI (sI σ1 11 6 (t0 + k) (gI σ 2 7 (a0 + ak k))) 11 7 (t0 + k) (gI σ 2 7 (a0 + ak k) + gI σ 2 3 (a0 + ak k))) 11 8 (t0 + k) ag) 6 7 (tp k) (gI σ 6 7 (tp k) + 1)) 6 8 (tp k) (1440 * day + (gI σ 2 7 (a0 + ak k) + gI σ 2 3 (a0 + ak k)) + 660)) 6 7 (tp k) = gI σ 6 7 (tp k) + 1 := by
      rw [gI_o (fun z => absurd z.2.1 (by decide)), gI_self]
    have q68 : gI (sI (sI (sR (sI (sI σ1 11 6 (t0 + k) (gI σ 2 7 (a0 + ak k))) 11 7 (t0 + k) (gI σ 2 7 (a0 + ak k) + gI σ 2 3 (a0 + ak k))) 11 8 (t0 + k) ag) 6 7 (tp k) (gI σ 6 7 (tp k) + 1)) 6 8 (tp k) (1440 * day + (gI σ 2 7 (a0 + ak k) + gI σ 2 3 (a0 + ak k)) + 660)) 6 8 (tp k) = 1440 * day + (gI σ 2 7 (a0 + ak k) + gI σ 2 3 (a0 + ak k)) + 660 := gI_self
    have q11o : ∀ f i, i ≠ t0 + k → gI (sI (sI (sR (sI (sI σ1 11 6 (t0 + k) (gI σ 2 7 (a0 + ak k))) 11 7 (t0 + k) (gI σ 2 7 (a0 + ak k) + gI σ 2 3 (a0 + ak k))) 11 8 (t0 + k) ag) 6 7 (tp k) (gI σ 6 7 (tp k) + 1)) 6 8 (tp k) (1440 * day + (gI σ 2 7 (a0 + ak k) + gI σ 2 3 (a0 + ak k)) + 660)) 11 f i = gI σ1 11 f i := fun f i hi => by
      rw [gI_o (fun z => absurd z.1 (by decide)), gI_o (fun z => absurd z.1 (by decide)), gI_sR, gI_o (fun z => hi z.2.2), gI_o (fun z => hi z.2.2)]
    have r11o : ∀ f i, i ≠ t0 + k → gR (sI (sI (sR (sI (sI σ1 11 6 (t0 + k) (gI σ 2 7 (a0 + ak k))) 11 7 (t0 + k) (gI σ 2 7 (a0 + ak k) + gI σ 2 3 (a0 + ak k))) 11 8 (t0 + k) ag) 6 7 (tp k) (gI σ 6 7 (tp k) + 1)) 6 8 (tp k) (1440 * day + (gI σ 2 7 (a0 + ak k) + gI σ 2 3 (a0 + ak k)) + 660)) 11 f i = gR σ1 11 f i := fun f i hi => by
      rw [gR_sI, gR_sI, gR_sR, if_neg (fun z => hi z.2.2)]; rfl
    have q116 : gI (sI (sI (sR (sI (sI σ1 11 6 (t0 + k) (gI σ 2 7 (a0 + ak k))) 11 7 (t0 + k) (gI σ 2 7 (a0 + ak k) + gI σ 2 3 (a0 + ak k))) 11 8 (t0 + k) ag) 6 7 (tp k) (gI σ 6 7 (tp k) + 1)) 6 8 (tp k) (1440 * day + (gI σ 2 7 (a0 + ak k) + gI σ 2 3 (a0 + ak k)) + 660)) 11 6 (t0 + k) = gI σ 2 7 (a0 + ak k) := by
      rw [gI_o (fun z => absurd z.1 (by decide)), gI_o (fun z => absurd z.1 (by decide)), gI_sR, gI_o (fun z => absurd z.2.1 (by decide)), gI_self]
    have q117 : gI (sI (sI (sR (sI (sI σ1 11 6 (t0 + k) (gI σ 2 7 (a0 + ak k))) 11 7 (t0 + k) (gI σ 2 7 (a0 + ak k) + gI σ 2 3 (a0 + ak k))) 11 8 (t0 + k) ag) 6 7 (tp k) (gI σ 6 7 (tp k) + 1)) 6 8 (tp k) (1440 * day + (gI σ 2 7 (a0 + ak k) + gI σ 2 3 (a0 + ak k)) + 660)) 11 7 (t0 + k) = gI σ 2 7 (a0 + ak k) + gI σ 2 3 (a0 + ak k) := by
      rw [gI_o (fun z => absurd z.1 (by decide)), gI_o (fun z => absurd z.1 (by decide)), gI_sR, gI_self]
    have r118 : gR (sI (sI (sR (sI (sI σ1 11 6 (t0 + k) (gI σ 2 7 (a0 + ak k))) 11 7 (t0 + k) (gI σ 2 7 (a0 + ak k) + gI σ 2 3 (a0 + ak k))) 11 8 (t0 + k) ag) 6 7 (tp k) (gI σ 6 7 (tp k) + 1)) 6 8 (tp k) (1440 * day + (gI σ 2 7 (a0 + ak k) + gI σ 2 3 (a0 + ak k)) + 660)) 11 8 (t0 + k) = ag := by
      rw [gR_sI, gR_sI, gR_self]
    have K2 : sameK (fun c => c ≠ 6 ∧ c ≠ 11) σ1 (sI (sI (sR (sI (sI σ1 11 6 (t0 + k) (gI σ 2 7 (a0 + ak k))) 11 7 (t0 + k) (gI σ 2 7 (a0 + ak k) + gI σ 2 3 (a0 + ak k))) 11 8 (t0 + k) ag) 6 7 (tp k) (gI σ 6 7 (tp k) + 1)) 6 8 (tp k) (1440 * day + (gI σ 2 7 (a0 + ak k) + gI σ 2 3 (a0 + ak k)) + 660)) := fun c hc => (((((eqK_sI hc.2).tr (eqK_sI hc.2)).tr (eqK_sR hc.2)).tr (eqK_sI hc.1)).tr (eqK_sI hc.1))
    generalize sI (sI (sR (sI (sI σ1 11 6 (t0 + k) (gI σ 2 7 (a0 + ak k))) 11 7 (t0 + k) (gI σ 2 7 (a0 + ak k) + gI σ 2 3 (a0 + ak k))) 11 8 (t0 + k) ag) 6 7 (tp k) (gI σ 6 7 (tp k) + 1)) 6 8 (tp k) (1440 * day + (gI σ 2 7 (a0 + ak k) + gI σ 2 3 (a0 + ak k)) + 660) = σ2 at *
    have S2 := F2.st S1
    have W2 := w2.same K2 (by decide) (by decide)
    have W3 := w3.same K2 (by decide) (by decide)
    have e0 : gR σ2 11 0 (t0 + k) = some (6, tp k) := (F2.2.2.1 0 _ (by decide)).trans r0
    have e3 : gI σ2 11 3 (t0 + k) = gI σ 11 3 (t0 + k) := (F2.2.2.2.2.2.2.1 3 _ (by decide) (by decide)).trans (F.2.2.2.2.2.2.1 3 _ (by decide) (by decide))
    refine ⟨S2, ?_⟩
    rw [e0, e3]
    refine c_factAdd S2 W2 W3 (by omega) (fun σ3 F3 K3 o3 n3 X2 X3 => ⟨F3.st S2, ?_⟩)
    have L51 : AL σ3 5 (R + k) (fun i => (11, if i < R then e i else t0 + (i - R))) := (L5.same (K2.sub (fun c hc => by rcases hc with rfl | rfl <;> decide))).same (K3.sub (fun c hc => by rcases hc with rfl | rfl <;> decide))
    have l5 : lcap σ3 5 = lcap σ1 5 := (lcap_eq (K3.sub (fun c hc => by rcases hc with rfl | rfl <;> decide))).trans (lcap_eq (K2.sub (fun c hc => by rcases hc with rfl | rfl <;> decide)))
    have LW3 : LW σ3 := F3.2.2.2.2.2.2.2.2.1 (F2.2.2.2.2.2.2.2.2.1 (F.2.2.2.2.2.2.2.2.1 hW))
    have cz : cnt σ3 0 = cnt σ 0 := F3.2.2.2.2.2.2.2.1.trans (F2.2.2.2.2.2.2.2.1.trans F.2.2.2.2.2.2.2.1)
    have cap10 : lcap σ3 5 = 0 ∨ 10 ≤ lcap σ3 5 := by
      obtain ⟨y, y1, y2, y3, y4, y5, y6, y7, y8⟩ := L51
      rw [lcap_of y1]
      rcases y7 with z | z
      · exact Or.inl z.2
      · exact Or.inr z.2
    have capR : R + k ≤ lcap σ3 5 := by
      obtain ⟨y, y1, y2, y3, y4, y5, y6, y7, y8⟩ := L51
      rw [lcap_of y1]; exact y3
    -- room for the record
    have goal : ∀ (kk' nn' : Nat) (σ4 : AS), LAdd σ3 σ4 5 → AL σ4 5 (R + k + 1) (fun i => if i = R + k then (11, t0 + k) else (11, if i < R then e i else t0 + (i - R))) → m - (k + 1) ≤ kk' → 7 * (R + m) + 40 ≤ nn' + 4 * lcap σ4 5 → AW G l M_X11_sendAll (d + 8) post σ4 kk' nn' 38 [some (xR (some (12, 0))), some (xR ag), some (xI (if lastS (fun k => gI σ 2 7 (a0 + ak k) + gI σ 2 3 (a0 + ak k)) k < gI σ4 11 7 (t0 + k) then gI σ4 11 7 (t0 + k) else lastS (fun k => gI σ 2 7 (a0 + ak k) + gI σ 2 3 (a0 + ak k)) k)), some (xI (nI k + 1)), none] [] := by
      intro kk' nn' σ4 D4 A4 hk' hn'
      have F4 := NF.ladd D4
      have e7 : gI σ4 11 7 (t0 + k) = gI σ 2 7 (a0 + ak k) + gI σ 2 3 (a0 + ak k) := ((D4.1 11 (by decide)).2.1 7 _).trans (((K3 11 (by decide)).2.1 7 _).trans q117)
      rw [e7, nI_1]
      show AW G l M_X11_sendAll (d + 8) post σ4 kk' nn' 38 [some (xR (some (12, 0))), some (xR ag), some (xI (lastS (fun k => gI σ 2 7 (a0 + ak k) + gI σ 2 3 (a0 + ak k)) (k + 1))), some (xI (nI (k + 1))), none] []
      have g6 : ∀ f i, gI σ4 6 f i = gI σ3 6 f i := fun f i => (D4.1 6 (by decide)).2.1 f i
      have g11 : ∀ f i, gI σ4 11 f i = gI σ2 11 f i := fun f i => ((D4.1 11 (by decide)).2.1 f i).trans ((K3 11 (by decide)).2.1 f i)
      have r11 : ∀ f i, gR σ4 11 f i = gR σ2 11 f i := fun f i => ((D4.1 11 (by decide)).2.2.1 f i).trans ((K3 11 (by decide)).2.2.1 f i)
      refine ih (k + 1) σ4 kk' nn' (by omega) (by omega) ⟨((F.tr F2).tr F3).tr F4, fun i hi f => ?_, fun i hi => ⟨fun f => ?_, fun f => ?_⟩, fun j hj => ?_, ?_, ?_, ?_⟩ hk' hn'
      · have h1 : i ≠ tp k := hi k (Nat.lt_succ_self k)
        rw [g6, o3 f i (fun z => h1 z.2), q6o f i h1]
        exact m6 i (fun j hj => hi j (by omega)) f
      · rw [g11, q11o f i (by omega)]
        exact (m11 i (by omega)).1 f
      · rw [r11, r11o f i (by omega)]
        exact (m11 i (by omega)).2 f
      · by_cases q : j = k
        · subst q
          exact ⟨(g11 6 _).trans q116, (g11 7 _).trans q117, (r11 8 _).trans r118, by rw [g6, o3 7 _ (fun z => absurd z.1 (by decide))]; exact q67, by rw [g6, o3 8 _ (fun z => absurd z.1 (by decide))]; exact q68, by rw [g6, n3, q69, kp 9]⟩
        · have hj' : j < k := by omega
          obtain ⟨v1, v2, v3, v4, v5, v6⟩ := mv j hj'
          have np : tp j ≠ tp k := fun z => q (hinj j k (by omega) hkm z)
          have p6 : ∀ f, gI σ4 6 f (tp j) = gI σ1 6 f (tp j) := fun f => by rw [g6, o3 f _ (fun z => np z.2), q6o f _ np]
          exact ⟨by rw [g11, q11o _ _ (by omega)]; exact v1, by rw [g11, q11o _ _ (by omega)]; exact v2, by rw [r11, r11o _ _ (by omega)]; exact v3, (p6 7).trans v4, (p6 8).trans v5, (p6 9).trans v6⟩
      · have X2' := X2.same (σ' := σ4) D4.1 (by decide) (by decide)
        rw [show n + (k + 1) = n + k + 1 by omega]
        refine X2'.fits (fun i hi => ?_)
        unfold snoc catN
        by_cases z : i = n + k
        · rw [if_pos z, if_neg (by omega), show i - n = k by omega, q60, kp 0]
        · rw [if_neg z]
      · have X3' := X3.same (σ' := σ4) D4.1 (by decide) (by decide)
        rw [show n + (k + 1) = n + k + 1 by omega]
        refine X3'.fits (fun i hi => ?_)
        unfold snoc catN
        by_cases z : i = n + k
        · rw [if_pos z, if_neg (by omega), show i - n = k by omega]
        · rw [if_neg z]
      · rw [show R + (k + 1) = R + k + 1 by omega]
        obtain ⟨y, b1, b2, b3, b4, b5, b6⟩ := A4
        refine ⟨y, b1, b2, b3, b4, fun i hi => ?_, b6⟩
        rw [b5 i hi]
        show some (if i = R + k then ((11 : Nat), t0 + k) else (11, if i < R then e i else t0 + (i - R))) = some (11, if i < R then e i else t0 + (i - R))
        by_cases w : i = R + k
        · rw [if_pos w, if_neg (by omega), show i - R = k by omega]
        · rw [if_neg w]
    by_cases hfull : R + k < lcap σ3 5
    · refine ⟨0, 0, kk, nn, by omega, by omega, c_add LW3 (by omega) L51 (by show 11 < 14; omega) (by omega) (Or.inl hfull) (fun σ4 D4 A4 l4 => goal kk nn σ4 D4 A4 (by omega) ?_)⟩
      rw [l4, if_pos hfull, l5]; exact hnn
    · have hnc : ncap (R + k) ≤ nn ∧ 7 * (R + m) + 40 ≤ nn - ncap (R + k) + 4 * ncap (R + k) := by
        have hc : lcap σ1 5 = R + k := by omega
        unfold ncap
        split <;> omega
      refine ⟨1, ncap (R + k), kk - 1, nn - ncap (R + k), by omega, by omega, c_add LW3 (by omega) L51 (by show 11 < 14; omega) (by omega) (Or.inr ⟨Nat.le_refl _, Nat.le_refl _⟩) (fun σ4 D4 A4 l4 => goal (kk - 1) (nn - ncap (R + k)) σ4 D4 A4 (by omega) ?_)⟩
      rw [l4, if_neg hfull]; exact hnc.2
end SENDALL
