/-! The law's loop. -/
section LOOP
variable {G : GG} {l : Launch} {d D : Nat} {post : Option AVal → AS → Prop} {σ σ1 : AS} {kk nn : Nat}
/-- the pair's ends compared -/
theorem lw_tail {M : Mth} {as : List AVal} {x0 : Int32} {E : AS → Prop} {R : AS → Prop} (k : ∀ σ2, E σ2 → R σ2) (m : AMet G l M d 0 0 as σ1 (fun w σ2 => some (xI x0) = w ∧ E σ2)) : AMet G l M d 0 0 as σ1 (retI (fun y σ2 => ((x0 = y → R σ2) ∧ (¬ x0 = y → post (some (xI 0)) σ2)))) := AMet.mono m (fun v σ2 h => by
  obtain ⟨e, h⟩ := h
  subst e
  exact ⟨fun _ => k σ2 h, fun z => absurd rfl z⟩)
theorem lw_tailL {M : Mth} {as : List AVal} {x0 : Int64} {E : AS → Prop} {R : AS → Prop} (k : ∀ σ2, E σ2 → R σ2) (m : AMet G l M d 0 0 as σ1 (fun w σ2 => some (xL x0) = w ∧ E σ2)) : AMet G l M d 0 0 as σ1 (retL (fun y σ2 => ((lg_cmp x0 y = 0 → R σ2) ∧ (¬ lg_cmp x0 y = 0 → post (some (xI 0)) σ2)))) := AMet.mono m (fun v σ2 h => by
  obtain ⟨e, h⟩ := h
  subst e
  exact ⟨fun _ => k σ2 h, fun z => absurd ((lg_cmp_eq x0 x0).mpr rfl) z⟩)
theorem lw_end {Ls j : Nat} (hLs : Ls ≤ 3072) (hj : j ≤ 600) (h : ¬ nI Ls - 6 < nI (6 * j)) : 6 * j + 6 ≤ Ls := by
  rcases Nat.lt_or_ge Ls 6 with q | q
  · refine absurd ?_ h
    have e : ∀ n, n < 6 → nI n - 6 < 0 := by decide
    exact Int32.lt_of_lt_of_le (e Ls q) (Int32.not_lt.mp (nI_pos (by omega)))
  · obtain ⟨m, rfl⟩ : ∃ m, Ls = m + 6 := ⟨Ls - 6, by omega⟩
    have e : nI (m + 6) - 6 = nI m := by
      rw [← nI_add, show (6 : Int32) = nI 6 from rfl]
      exact Int32.add_sub_cancel _ _
    rw [e] at h
    have := mt (nI_ltI (a := m) (b := 6 * j) (by omega) (by omega)).mpr h
    omega
set_option maxHeartbeats 4000000 in
theorem law_loop (hl : l.stackTraces = false) {Ls : Nat} (hLs : Ls ≤ 3072) (hpost : ∀ σ', post (some (xI 1)) σ') : ∀ (c j D : Nat) (σ : AS) (kk nn : Nat), Ls / 6 - j = c → j ≤ 512 → Inv D σ → gN σ 27 0 = Ls → vp_in 0 (gN σ 24 0) → 29 * c + 161 * (60 - D) ≤ kk → 7703 * c + 22043 * (60 - D) ≤ nn → AW G l M_L_law (d + 37) post σ kk nn 23 [some (xR (some (27, 0))), some (xR (some (12, 0))), some (xR (some (13, 0))), some (xR (some (24, 0))), some (xI (nI (6 * j))), none, none] [] := by
  intro c
  induction c with
  | zero =>
    intro j D σ kk nn hc hj hI hN h24 hk hn
    refine vc_L_law_23 (d := d + 36) ⟨fun _ => hpost σ, fun z => ?_⟩
    rw [hN] at z
    have := lw_end hLs (by omega) z
    omega
  | succ c ih =>
    intro j D σ kk nn hc hj hI hN h24 hk hn
    have go : ∀ D' σ2 kk' nn', Inv D' σ2 → XO σ σ2 → 29 * c + 161 * (60 - D') ≤ kk' → 7703 * c + 22043 * (60 - D') ≤ nn' → AW G l M_L_law (d + 37) post σ2 kk' nn' 23 [some (xR (some (27, 0))), some (xR (some (12, 0))), some (xR (some (13, 0))), some (xR (some (24, 0))), some (xI (nI (6 * j) + 6)), none, none] [] := fun D' σ2 kk' nn' I2 xo h1 h2 => by
      have e : nI (6 * j) + 6 = nI (6 * (j + 1)) := by rw [show (6 : Int32) = nI 6 from rfl, nI_add]; congr 1
      rw [e]
      exact ih (j + 1) D' σ2 kk' nn' (by omega) (by omega) I2 ((xo.1.2.2.2.1 0).trans hN) (by rw [xo.2 0]; exact h24) h1 h2
    refine vc_L_law_23 (d := d + 36) ⟨fun _ => hpost σ, fun z => ?_⟩
    rw [hN] at z ⊢
    have h6 := lw_end hLs (by omega) z
    have v0 : vp_in (nI (6 * j)) Ls := vp_in_nI (by omega) (by omega)
    have v1 : vp_in (nI (6 * j) + 1) Ls := by rw [show (1 : Int32) = nI 1 from rfl, nI_add]; exact vp_in_nI (by omega) (by omega)
    have v2 : vp_in (nI (6 * j) + 2) Ls := by rw [show (2 : Int32) = nI 2 from rfl, nI_add]; exact vp_in_nI (by omega) (by omega)
    have v3 : vp_in (nI (6 * j) + 3) Ls := by rw [show (3 : Int32) = nI 3 from rfl, nI_add]; exact vp_in_nI (by omega) (by omega)
    have v4 : vp_in (nI (6 * j) + 4) Ls := by rw [show (4 : Int32) = nI 4 from rfl, nI_add]; exact vp_in_nI (by omega) (by omega)
    have v5 : vp_in (nI (6 * j) + 5) Ls := by rw [show (5 : Int32) = nI 5 from rfl, nI_add]; exact vp_in_nI (by omega) (by omega)
    have gn : ∀ σ1, XO σ σ1 → gN σ1 27 0 = Ls := fun σ1 xo => (xo.1.2.2.2.1 0).trans hN
    have ga : ∀ σ1, XO σ σ1 → ∀ i, gA σ1 27 0 i = gA σ 27 0 i := fun σ1 xo i => xo.1.2.2.2.2.1 0 i
    refine ⟨v0, fun _ => ?_, fun _ => ?_, fun _ => ?_, fun _ => ?_, fun _ => ?_, fun _ => ?_, fun _ => ?_, fun _ => ?_, fun _ => ?_, fun _ => ?_, fun _ => ?_, fun _ => ?_, fun _ => ?_, fun _ => ?_, fun _ => ?_, fun _ => ?_, fun _ => ?_, fun _ => ?_, fun _ => ?_, fun _ => ?_, fun _ => ?_, fun _ => ?_, fun _ => ?_, fun _ => go D σ kk nn hI XO.rf (by omega) (by omega)⟩
    · refine ⟨v1, v2, v3, v4, v5, 2, 72, kk - 2, nn - 72, by omega, by omega, op_person (d := d) (P := fun v w σ2 => v = w ∧ Inv D σ2 ∧ XK σ σ2) (Nat.le_refl _) (Nat.le_refl _) hI (fun x0 σ1 xk m => ?_) (fun x σ2 I2 xk => ⟨rfl, I2, xk⟩)⟩
      have xo := xk.xo
      refine ⟨by rw [gn σ1 xo]; exact v1, by rw [gn σ1 xo]; exact v2, by rw [gn σ1 xo]; exact v3, by rw [gn σ1 xo]; exact v4, by rw [gn σ1 xo]; exact v5, ?_⟩
      rw [ga σ1 xo, ga σ1 xo, ga σ1 xo, ga σ1 xo, ga σ1 xo]
      exact lw_tail (E := fun σ2 => Inv D σ2 ∧ XK σ σ2) (fun σ2 h => go D σ2 _ _ h.1 h.2.xo (by omega) (by omega)) m
    · refine ⟨v1, v2, fun c0 => op_away (d := d) (P := fun v w σ2 => v = w ∧ Inv D σ2 ∧ XK σ σ2) (Or.inl rfl) hI (fun x0 σ1 xk m => ?_) (fun x σ2 I2 xk => ⟨rfl, I2, xk⟩), fun c0 => op_away (d := d) (P := fun v w σ2 => v = w ∧ Inv D σ2 ∧ XK σ σ2) (Or.inr rfl) hI (fun x0 σ1 xk m => ?_) (fun x σ2 I2 xk => ⟨rfl, I2, xk⟩)⟩
      · have xo := xk.xo
        refine ⟨by rw [gn σ1 xo]; exact v1, by rw [gn σ1 xo]; exact v2, fun _ => ?_, fun z => absurd (by rw [ga σ1 xo]; exact c0) z⟩
        rw [ga σ1 xo]
        exact lw_tail (E := fun σ2 => Inv D σ2 ∧ XK σ σ2) (fun σ2 h => go D σ2 kk nn h.1 h.2.xo (by omega) (by omega)) m
      · have xo := xk.xo
        refine ⟨by rw [gn σ1 xo]; exact v1, by rw [gn σ1 xo]; exact v2, fun z => absurd (by rw [ga σ1 xo] at z; exact z) c0, fun _ => ?_⟩
        rw [ga σ1 xo]
        exact lw_tail (E := fun σ2 => Inv D σ2 ∧ XK σ σ2) (fun σ2 h => go D σ2 kk nn h.1 h.2.xo (by omega) (by omega)) m
    · refine ⟨v1, v2, v3, v4, v5, op_feed (d := d) (P := fun v w σ2 => v = w ∧ Inv D σ2 ∧ XK σ σ2) hI (fun x0 σ1 xk m => ?_) (fun x σ2 I2 xk => ⟨rfl, I2, xk⟩)⟩
      have xo := xk.xo
      refine ⟨by rw [gn σ1 xo]; exact v1, by rw [gn σ1 xo]; exact v2, by rw [gn σ1 xo]; exact v3, by rw [gn σ1 xo]; exact v4, by rw [gn σ1 xo]; exact v5, ?_⟩
      rw [ga σ1 xo, ga σ1 xo, ga σ1 xo, ga σ1 xo, ga σ1 xo]
      exact lw_tail (E := fun σ2 => Inv D σ2 ∧ XK σ σ2) (fun σ2 h => go D σ2 kk nn h.1 h.2.xo (by omega) (by omega)) m
    · refine ⟨v1, op_end (d := d) (P := fun v w σ2 => v = w ∧ Inv D σ2 ∧ XK σ σ2) hI (fun x0 σ1 xk m => ?_) (fun x σ2 I2 xk => ⟨rfl, I2, xk⟩)⟩
      have xo := xk.xo
      refine ⟨by rw [gn σ1 xo]; exact v1, ?_⟩
      rw [ga σ1 xo]
      exact lw_tail (E := fun σ2 => Inv D σ2 ∧ XK σ σ2) (fun σ2 h => go D σ2 kk nn h.1 h.2.xo (by omega) (by omega)) m
    · refine ⟨29, 7703, kk - 29, nn - 7703, by omega, by omega, op_asks (d := d) (P := fun v w σ2 => v = w ∧ Inv D σ2 ∧ XK σ σ2) (Nat.le_refl _) (Nat.le_refl _) hI (fun x0 σ1 xk m => ?_) (fun x σ2 I2 xk => ⟨rfl, I2, xk⟩)⟩
      have xo := xk.xo
      exact lw_tail (E := fun σ2 => Inv D σ2 ∧ XK σ σ2) (fun σ2 h => go D σ2 _ _ h.1 h.2.xo (by omega) (by omega)) m
    · refine ⟨21, 200, kk - 21, nn - 200, by omega, by omega, op_agree (d := d) (P := fun v w σ2 => v = w ∧ Inv D σ2 ∧ XK σ σ2) (Nat.le_refl _) (Nat.le_refl _) hI (fun x0 σ1 xk m => ?_) (fun x σ2 I2 xk => ⟨rfl, I2, xk⟩)⟩
      have xo := xk.xo
      exact lw_tail (E := fun σ2 => Inv D σ2 ∧ XK σ σ2) (fun σ2 h => go D σ2 _ _ h.1 h.2.xo (by omega) (by omega)) m
    · refine op_place (d := d) (P := fun v w σ2 => v = w ∧ Inv D σ2 ∧ XK σ σ2) hI (fun x0 σ1 xk m => ?_) (fun x σ2 I2 xk => ⟨rfl, I2, xk⟩)
      have xo := xk.xo
      exact lw_tail (E := fun σ2 => Inv D σ2 ∧ XK σ σ2) (fun σ2 h => go D σ2 kk nn h.1 h.2.xo (by omega) (by omega)) m
    · refine ⟨v1, v2, v3, op_fits (d := d) (P := fun v w σ2 => v = w ∧ Inv D σ2 ∧ XK σ σ2) hI (fun x0 σ1 xk m => ?_) (fun x σ2 I2 xk => ⟨rfl, I2, xk⟩)⟩
      have xo := xk.xo
      refine ⟨by rw [gn σ1 xo]; exact v1, by rw [gn σ1 xo]; exact v2, by rw [gn σ1 xo]; exact v3, ?_⟩
      rw [ga σ1 xo, ga σ1 xo, ga σ1 xo]
      exact lw_tail (E := fun σ2 => Inv D σ2 ∧ XK σ σ2) (fun σ2 h => go D σ2 kk nn h.1 h.2.xo (by omega) (by omega)) m
    · refine op_lay (d := d) (P := fun v w σ2 => v = w ∧ Inv D σ2 ∧ XK σ σ2) hI (fun x0 σ1 xk m => ?_) (fun x σ2 I2 xk => ⟨rfl, I2, xk⟩)
      have xo := xk.xo
      exact lw_tail (E := fun σ2 => Inv D σ2 ∧ XK σ σ2) (fun σ2 h => go D σ2 kk nn h.1 h.2.xo (by omega) (by omega)) m
    · refine ⟨v1, op_called (d := d) (P := fun v w σ2 => v = w ∧ Inv D σ2 ∧ XK σ σ2) hI (fun x0 σ1 xk m => ?_) (fun x σ2 I2 xk => ⟨rfl, I2, xk⟩)⟩
      have xo := xk.xo
      refine ⟨by rw [gn σ1 xo]; exact v1, ?_⟩
      rw [ga σ1 xo]
      exact lw_tail (E := fun σ2 => Inv D σ2 ∧ XK σ σ2) (fun σ2 h => go D σ2 kk nn h.1 h.2.xo (by omega) (by omega)) m
    · refine ⟨v1, op_no (d := d) (P := fun v w σ2 => v = w ∧ Inv D σ2 ∧ XK σ σ2) hI (fun x0 σ1 xk m => ?_) (fun x σ2 I2 xk => ⟨rfl, I2, xk⟩)⟩
      have xo := xk.xo
      refine ⟨by rw [gn σ1 xo]; exact v1, ?_⟩
      rw [ga σ1 xo]
      exact lw_tail (E := fun σ2 => Inv D σ2 ∧ XK σ σ2) (fun σ2 h => go D σ2 kk nn h.1 h.2.xo (by omega) (by omega)) m
    · refine ⟨v1, op_moved (d := d) (P := fun v w σ2 => v = w ∧ Inv D σ2 ∧ XK σ σ2) hI (fun x0 σ1 xk m => ?_) (fun x σ2 I2 xk => ⟨rfl, I2, xk⟩)⟩
      have xo := xk.xo
      refine ⟨by rw [gn σ1 xo]; exact v1, ?_⟩
      rw [ga σ1 xo]
      exact lw_tail (E := fun σ2 => Inv D σ2 ∧ XK σ σ2) (fun σ2 h => go D σ2 kk nn h.1 h.2.xo (by omega) (by omega)) m
    · refine ⟨v1, v2, ?_⟩
      obtain ⟨D', hD', st⟩ := op_step (G := G) (l := l) (d := d) (x := gA σ 27 0 (nI (6 * j) + 1).toNatClampNeg) (seed := gA σ 27 0 (nI (6 * j) + 2).toNatClampNeg) hI
      have fin : ∀ kk' nn', 29 * c + 161 * (60 - D') ≤ kk' → 7703 * c + 22043 * (60 - D') ≤ nn' → ∀ kb nb, (D' = D + 1 → 161 ≤ kb ∧ 22043 ≤ nb) → AMet G l M_X11_step (d + 36) kb nb [xR (some (12, 0)), xI (gA σ 27 0 (nI (6 * j) + 1).toNatClampNeg), xI (gA σ 27 0 (nI (6 * j) + 2).toNatClampNeg)] σ (retI (fun x90 σ85 => (vp_in (nI (6 * j) + 1) (gN σ85 27 0) ∧ (vp_in (nI (6 * j) + 2) (gN σ85 27 0) ∧ (AMet G l M_X12_step (d + 36) 0 0 [xR (some (13, 0)), xI (gA σ85 27 0 (nI (6 * j) + 1).toNatClampNeg), xI (gA σ85 27 0 (nI (6 * j) + 2).toNatClampNeg)] σ85 (retI (fun x92 σ91 => (((x90 = x92 → AW G l M_L_law (d + 36 + 1) post σ91 kk' nn' 23 [some (xR (some (27, 0))), some (xR (some (12, 0))), some (xR (some (13, 0))), some (xR (some (24, 0))), some (xI (nI (6 * j) + 6)), none, none] [])) ∧ ((¬ x90 = x92 → post (some (xI 0)) σ91)))))))))) := fun kk' nn' g1 g2 kb nb hb => by
        refine st (P := fun v w σ2 => v = w ∧ Inv D' σ2 ∧ XK σ σ2) hb (fun x0 σ1 xk m => ?_) (fun x σ2 I2 xk => ⟨rfl, I2, xk⟩)
        have xo := xk.xo
        refine ⟨by rw [gn σ1 xo]; exact v1, by rw [gn σ1 xo]; exact v2, ?_⟩
        rw [ga σ1 xo, ga σ1 xo]
        exact lw_tail (E := fun σ2 => Inv D' σ2 ∧ XK σ σ2) (fun σ2 h => go D' σ2 _ _ h.1 h.2.xo g1 g2) m
      rcases hD' with e | ⟨e, h60⟩
      · exact ⟨0, 0, kk, nn, by omega, by omega, fin kk nn (by rw [e]; omega) (by rw [e]; omega) 0 0 (fun z => by omega)⟩
      · exact ⟨161, 22043, kk - 161, nn - 22043, by omega, by omega, fin _ _ (by rw [e]; omega) (by rw [e]; omega) 161 22043 (fun _ => ⟨Nat.le_refl _, Nat.le_refl _⟩)⟩
    · refine ⟨v1, v2, v3, op_record (d := d) (P := fun v w σ2 => v = w ∧ Inv D σ2 ∧ XK σ σ2) hI (fun x0 σ1 xk m => ?_) (fun x σ2 I2 xk => ⟨rfl, I2, xk⟩)⟩
      have xo := xk.xo
      refine ⟨by rw [gn σ1 xo]; exact v1, by rw [gn σ1 xo]; exact v2, by rw [gn σ1 xo]; exact v3, ?_⟩
      rw [ga σ1 xo, ga σ1 xo, ga σ1 xo]
      exact lw_tail (E := fun σ2 => Inv D σ2 ∧ XK σ σ2) (fun σ2 h => go D σ2 kk nn h.1 h.2.xo (by omega) (by omega)) m
    · refine ⟨v1, v2, op_tell (d := d) (P := fun v w σ2 => v = w ∧ Inv D σ2 ∧ XK σ σ2) hI (fun x0 σ1 xk m => ?_) (fun x σ2 I2 xk => ⟨rfl, I2, xk⟩)⟩
      have xo := xk.xo
      refine ⟨by rw [gn σ1 xo]; exact v1, by rw [gn σ1 xo]; exact v2, ?_⟩
      rw [ga σ1 xo, ga σ1 xo]
      exact lw_tail (E := fun σ2 => Inv D σ2 ∧ XK σ σ2) (fun σ2 h => go D σ2 kk nn h.1 h.2.xo (by omega) (by omega)) m
    · refine ⟨v1, v2, v3, 1, 6, kk - 1, nn - 6, by omega, by omega, op_seen (d := d) hl hI h24 (fun r σ1 xo m => ?_)⟩
      refine ⟨by rw [gn σ1 xo]; exact v1, by rw [gn σ1 xo]; exact v2, by rw [gn σ1 xo]; exact v3, ?_⟩
      rw [ga σ1 xo, ga σ1 xo, ga σ1 xo]
      refine AMet.mono m (retI_to (g := retI _) (fun v σ2 hm => AMet.mono hm (retI_to (g := retI _) (fun t σ3 h3 => ?_))))
      obtain ⟨et, eg, I3, xo3⟩ := h3
      refine ⟨fun _ => ⟨fun _ => go D σ3 _ _ I3 xo3 (by omega) (by omega), fun z0 => ⟨by rw [xo3.2 0]; exact h24, fun _ => go D σ3 _ _ I3 xo3 (by omega) (by omega), fun w => absurd ((lg_cmp_eq _ _).mpr (eg z0)) w⟩⟩, fun w => absurd et w⟩
    · refine ⟨v1, v2, op_retake (d := d) (P := fun v w σ2 => v = w ∧ Inv D σ2 ∧ XK σ σ2) hI (fun x0 σ1 xk m => ?_) (fun x σ2 I2 xk => ⟨rfl, I2, xk⟩)⟩
      have xo := xk.xo
      refine ⟨by rw [gn σ1 xo]; exact v1, by rw [gn σ1 xo]; exact v2, ?_⟩
      rw [ga σ1 xo, ga σ1 xo]
      exact lw_tail (E := fun σ2 => Inv D σ2 ∧ XK σ σ2) (fun σ2 h => go D σ2 kk nn h.1 h.2.xo (by omega) (by omega)) m
    · refine ⟨v1, op_lacks (d := d) (P := fun v w σ2 => v = w ∧ Inv D σ2 ∧ XK σ σ2) hI (fun x0 σ1 xk m => ?_) (fun x σ2 I2 xk => ⟨rfl, I2, xk⟩)⟩
      have xo := xk.xo
      refine ⟨by rw [gn σ1 xo]; exact v1, ?_⟩
      rw [ga σ1 xo]
      exact lw_tail (E := fun σ2 => Inv D σ2 ∧ XK σ σ2) (fun σ2 h => go D σ2 kk nn h.1 h.2.xo (by omega) (by omega)) m
    · refine ⟨v1, v2, op_buses (d := d) (P := fun v w σ2 => v = w ∧ Inv D σ2 ∧ XK σ σ2) hI (fun x0 σ1 xk m => ?_) (fun x σ2 I2 xk => ⟨rfl, I2, xk⟩)⟩
      have xo := xk.xo
      refine ⟨by rw [gn σ1 xo]; exact v1, by rw [gn σ1 xo]; exact v2, ?_⟩
      rw [ga σ1 xo, ga σ1 xo]
      exact lw_tail (E := fun σ2 => Inv D σ2 ∧ XK σ σ2) (fun σ2 h => go D σ2 kk nn h.1 h.2.xo (by omega) (by omega)) m
    · refine ⟨v1, v2, op_ask (d := d) (P := fun v w σ2 => v = w ∧ Inv D σ2 ∧ XK σ σ2) hI (fun x0 σ1 xk m => ?_) (fun x σ2 I2 xk => ⟨rfl, I2, xk⟩)⟩
      have xo := xk.xo
      refine ⟨by rw [gn σ1 xo]; exact v1, by rw [gn σ1 xo]; exact v2, ?_⟩
      rw [ga σ1 xo, ga σ1 xo]
      exact lw_tail (E := fun σ2 => Inv D σ2 ∧ XK σ σ2) (fun σ2 h => go D σ2 kk nn h.1 h.2.xo (by omega) (by omega)) m
    · refine ⟨v1, v2, op_about (d := d) (P := fun v w σ2 => v = w ∧ Inv D σ2 ∧ XK σ σ2) hI (fun x0 σ1 xk m => ?_) (fun x σ2 I2 xk => ⟨rfl, I2, xk⟩)⟩
      have xo := xk.xo
      refine ⟨by rw [gn σ1 xo]; exact v1, by rw [gn σ1 xo]; exact v2, ?_⟩
      rw [ga σ1 xo, ga σ1 xo]
      exact lw_tail (E := fun σ2 => Inv D σ2 ∧ XK σ σ2) (fun σ2 h => go D σ2 kk nn h.1 h.2.xo (by omega) (by omega)) m
    · refine ⟨v1, v2, v3, op_pay (d := d) (P := fun v w σ2 => v = w ∧ Inv D σ2 ∧ XK σ σ2) hI (fun x0 σ1 xk m => ?_) (fun x σ2 I2 xk => ⟨rfl, I2, xk⟩)⟩
      have xo := xk.xo
      refine ⟨by rw [gn σ1 xo]; exact v1, by rw [gn σ1 xo]; exact v2, by rw [gn σ1 xo]; exact v3, ?_⟩
      rw [ga σ1 xo, ga σ1 xo, ga σ1 xo]
      exact lw_tailL (E := fun σ2 => Inv D σ2 ∧ XK σ σ2) (fun σ2 h => go D σ2 kk nn h.1 h.2.xo (by omega) (by omega)) m
    · refine ⟨v1, op_count (d := d) (P := fun v w σ2 => v = w ∧ Inv D σ2 ∧ XK σ σ2) hI (fun x0 σ1 xk m => ?_) (fun x σ2 I2 xk => ⟨rfl, I2, xk⟩)⟩
      have xo := xk.xo
      refine ⟨by rw [gn σ1 xo]; exact v1, ?_⟩
      rw [ga σ1 xo]
      exact lw_tail (E := fun σ2 => Inv D σ2 ∧ XK σ σ2) (fun σ2 h => go D σ2 kk nn h.1 h.2.xo (by omega) (by omega)) m
end LOOP
