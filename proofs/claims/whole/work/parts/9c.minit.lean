/-! The model's constructor; the coupling holds at the start. -/
section MINIT
variable {G : GG} {l : Launch} {d : Nat} {post : Option AVal → AS → Prop} {σ : AS}
def eLN : List (Nat × Nat × Nat) := [(23, 0, 0)]
def eC : List (Nat × Nat) := [(0, 6), (2, 0), (6, 0), (11, 0), (24, 0)]
set_option maxRecDepth 8000 in
set_option maxHeartbeats 4000000 in
theorem c_minit (hg : Gr σ cLR ((13, 0, 0) :: cLN) (upC cC 13 0) (-1) 0) (h : ∀ s, XO σ s → St s → Gr s cLR eLN eC (-1) (-1) → post none s) : AMet G l M_X12_init (d + 36) 60 30000 [xR (some (13, 0))] σ post := by
  refine AMet.of rfl (Nat.le_of_ble_eq_true rfl) (vc_X12_init (d := d + 35) ?_)
  have gσ := hg
  have xσ : XO σ σ := XO.rf
  refine ⟨_, _, rfl, rfl, fun s1 e => ?_⟩
  rw [show cnt σ 26 = 0 from gσ.c (by decide +kernel)] at e
  have gs1 := (gσ.nA (n := 40) (c := 26) (m := 0) (by decide +kernel) (fun e => absurd e (by decide)) (fun e => absurd e (by decide))).sR (c := 13) (f := 3) (i := 0) (v := (26, 0)) (m := 1) (by decide +kernel) (by decide) (by decide +kernel)
  have xs1 := (xσ.nA (c := 26) (n := 40) (by decide) (by decide)).sR (c := 13) (f := 3) (i := 0) (v := some (26, 0)) (by decide)
  rw [← e] at gs1 xs1
  clear e
  refine ⟨_, _, rfl, rfl, fun s2 e => ?_⟩
  rw [show cnt s1 26 = 1 from gs1.c (by decide +kernel)] at e
  have gs2 := (gs1.nA (n := 40) (c := 26) (m := 1) (by decide +kernel) (fun e => absurd e (by decide)) (fun e => absurd e (by decide))).sR (c := 13) (f := 4) (i := 0) (v := (26, 1)) (m := 1) (by decide +kernel) (by decide) (by decide +kernel)
  have xs2 := (xs1.nA (c := 26) (n := 40) (by decide) (by decide)).sR (c := 13) (f := 4) (i := 0) (v := some (26, 1)) (by decide)
  rw [← e] at gs2 xs2
  clear e gs1 xs1
  refine ⟨_, _, rfl, rfl, fun s3 e => ?_⟩
  rw [show cnt s2 26 = 2 from gs2.c (by decide +kernel)] at e
  have gs3 := (gs2.nA (n := 40) (c := 26) (m := 2) (by decide +kernel) (fun e => absurd e (by decide)) (fun e => absurd e (by decide))).sR (c := 13) (f := 5) (i := 0) (v := (26, 2)) (m := 1) (by decide +kernel) (by decide) (by decide +kernel)
  have xs3 := (xs2.nA (c := 26) (n := 40) (by decide) (by decide)).sR (c := 13) (f := 5) (i := 0) (v := some (26, 2)) (by decide)
  rw [← e] at gs3 xs3
  clear e gs2 xs2
  refine ⟨_, _, rfl, rfl, fun s4 e => ?_⟩
  rw [show cnt s3 26 = 3 from gs3.c (by decide +kernel)] at e
  have gs4 := (gs3.nA (n := 40) (c := 26) (m := 3) (by decide +kernel) (fun e => absurd e (by decide)) (fun e => absurd e (by decide))).sR (c := 13) (f := 6) (i := 0) (v := (26, 3)) (m := 1) (by decide +kernel) (by decide) (by decide +kernel)
  have xs4 := (xs3.nA (c := 26) (n := 40) (by decide) (by decide)).sR (c := 13) (f := 6) (i := 0) (v := some (26, 3)) (by decide)
  rw [← e] at gs4 xs4
  clear e gs3 xs3
  refine ⟨_, _, rfl, rfl, fun s5 e => ?_⟩
  rw [show cnt s4 26 = 4 from gs4.c (by decide +kernel)] at e
  have gs5 := (gs4.nA (n := 40) (c := 26) (m := 4) (by decide +kernel) (fun e => absurd e (by decide)) (fun e => absurd e (by decide))).sR (c := 13) (f := 7) (i := 0) (v := (26, 4)) (m := 1) (by decide +kernel) (by decide) (by decide +kernel)
  have xs5 := (xs4.nA (c := 26) (n := 40) (by decide) (by decide)).sR (c := 13) (f := 7) (i := 0) (v := some (26, 4)) (by decide)
  rw [← e] at gs5 xs5
  clear e gs4 xs4
  refine ⟨_, _, rfl, rfl, fun s6 e => ?_⟩
  rw [show cnt s5 21 = 0 from gs5.c (by decide +kernel)] at e
  have gs6 := (gs5.nA (n := 40) (c := 21) (m := 0) (by decide +kernel) (fun e => absurd e (by decide)) (fun e => absurd e (by decide))).sR (c := 13) (f := 8) (i := 0) (v := (21, 0)) (m := 1) (by decide +kernel) (by decide) (by decide +kernel)
  have xs6 := (xs5.nA (c := 21) (n := 40) (by decide) (by decide)).sR (c := 13) (f := 8) (i := 0) (v := some (21, 0)) (by decide)
  rw [← e] at gs6 xs6
  clear e gs5 xs5
  refine ⟨_, _, rfl, rfl, fun s7 e => ?_⟩
  rw [show cnt s6 26 = 5 from gs6.c (by decide +kernel)] at e
  have gs7 := (gs6.nA (n := 40) (c := 26) (m := 5) (by decide +kernel) (fun e => absurd e (by decide)) (fun e => absurd e (by decide))).sR (c := 13) (f := 9) (i := 0) (v := (26, 5)) (m := 1) (by decide +kernel) (by decide) (by decide +kernel)
  have xs7 := (xs6.nA (c := 26) (n := 40) (by decide) (by decide)).sR (c := 13) (f := 9) (i := 0) (v := some (26, 5)) (by decide)
  rw [← e] at gs7 xs7
  clear e gs6 xs6
  refine ⟨_, _, rfl, rfl, fun s8 e => ?_⟩
  rw [show cnt s7 26 = 6 from gs7.c (by decide +kernel)] at e
  have gs8 := (gs7.nA (n := 40) (c := 26) (m := 6) (by decide +kernel) (fun e => absurd e (by decide)) (fun e => absurd e (by decide))).sR (c := 13) (f := 10) (i := 0) (v := (26, 6)) (m := 1) (by decide +kernel) (by decide) (by decide +kernel)
  have xs8 := (xs7.nA (c := 26) (n := 40) (by decide) (by decide)).sR (c := 13) (f := 10) (i := 0) (v := some (26, 6)) (by decide)
  rw [← e] at gs8 xs8
  clear e gs7 xs7
  refine ⟨_, _, rfl, rfl, fun s9 e => ?_⟩
  rw [show cnt s8 26 = 7 from gs8.c (by decide +kernel)] at e
  have gs9 := (gs8.nA (n := 40) (c := 26) (m := 7) (by decide +kernel) (fun e => absurd e (by decide)) (fun e => absurd e (by decide))).sR (c := 13) (f := 11) (i := 0) (v := (26, 7)) (m := 1) (by decide +kernel) (by decide) (by decide +kernel)
  have xs9 := (xs8.nA (c := 26) (n := 40) (by decide) (by decide)).sR (c := 13) (f := 11) (i := 0) (v := some (26, 7)) (by decide)
  rw [← e] at gs9 xs9
  clear e gs8 xs8
  refine ⟨_, _, rfl, rfl, fun s10 e => ?_⟩
  rw [show cnt s9 26 = 8 from gs9.c (by decide +kernel)] at e
  have gs10 := (gs9.nA (n := 2600) (c := 26) (m := 8) (by decide +kernel) (fun e => absurd e (by decide)) (fun e => absurd e (by decide))).sR (c := 13) (f := 14) (i := 0) (v := (26, 8)) (m := 1) (by decide +kernel) (by decide) (by decide +kernel)
  have xs10 := (xs9.nA (c := 26) (n := 2600) (by decide) (by decide)).sR (c := 13) (f := 14) (i := 0) (v := some (26, 8)) (by decide)
  rw [← e] at gs10 xs10
  clear e gs9 xs9
  refine ⟨_, _, rfl, rfl, fun s11 e => ?_⟩
  rw [show cnt s10 26 = 9 from gs10.c (by decide +kernel)] at e
  have gs11 := (gs10.nA (n := 2600) (c := 26) (m := 9) (by decide +kernel) (fun e => absurd e (by decide)) (fun e => absurd e (by decide))).sR (c := 13) (f := 15) (i := 0) (v := (26, 9)) (m := 1) (by decide +kernel) (by decide) (by decide +kernel)
  have xs11 := (xs10.nA (c := 26) (n := 2600) (by decide) (by decide)).sR (c := 13) (f := 15) (i := 0) (v := some (26, 9)) (by decide)
  rw [← e] at gs11 xs11
  clear e gs10 xs10
  refine ⟨_, _, rfl, rfl, fun s12 e => ?_⟩
  rw [show cnt s11 22 = 0 from gs11.c (by decide +kernel)] at e
  have gs12 := (gs11.nA (n := 1000) (c := 22) (m := 0) (by decide +kernel) (fun e => absurd e (by decide)) (fun e => absurd e (by decide))).sR (c := 13) (f := 16) (i := 0) (v := (22, 0)) (m := 1) (by decide +kernel) (by decide) (by decide +kernel)
  have xs12 := (xs11.nA (c := 22) (n := 1000) (by decide) (by decide)).sR (c := 13) (f := 16) (i := 0) (v := some (22, 0)) (by decide)
  rw [← e] at gs12 xs12
  clear e gs11 xs11
  intro s13 e
  have gs13 := gs12.s13 (v := -1)
  have xs13 := xs12.tr ⟨eqK_sI (a := 13) (f := 26) (i := 0) (v := -1) (by decide), fun _ => rfl⟩
  rw [← e] at gs13 xs13
  clear e gs12 xs12
  refine ⟨_, _, rfl, rfl, fun s14 e => ?_⟩
  rw [show cnt s13 22 = 1 from gs13.c (by decide +kernel)] at e
  have gs14 := (gs13.nA (n := 1000) (c := 22) (m := 1) (by decide +kernel) (fun e => absurd e (by decide)) (fun e => absurd e (by decide))).sR (c := 13) (f := 30) (i := 0) (v := (22, 1)) (m := 1) (by decide +kernel) (by decide) (by decide +kernel)
  have xs14 := (xs13.nA (c := 22) (n := 1000) (by decide) (by decide)).sR (c := 13) (f := 30) (i := 0) (v := some (22, 1)) (by decide)
  rw [← e] at gs14 xs14
  clear e gs13 xs13
  refine ⟨_, _, rfl, rfl, fun s15 e => ?_⟩
  rw [show cnt s14 26 = 10 from gs14.c (by decide +kernel)] at e
  have gs15 := (gs14.nA (n := 6) (c := 26) (m := 10) (by decide +kernel) (fun e => absurd e (by decide)) (fun e => absurd e (by decide))).sR (c := 13) (f := 32) (i := 0) (v := (26, 10)) (m := 1) (by decide +kernel) (by decide) (by decide +kernel)
  have xs15 := (xs14.nA (c := 26) (n := 6) (by decide) (by decide)).sR (c := 13) (f := 32) (i := 0) (v := some (26, 10)) (by decide)
  rw [← e] at gs15 xs15
  clear e gs14 xs14
  refine ⟨_, _, rfl, rfl, fun s16 e => ?_⟩
  rw [show cnt s15 26 = 11 from gs15.c (by decide +kernel)] at e
  have gs16 := (gs15.nA (n := 6) (c := 26) (m := 11) (by decide +kernel) (fun e => absurd e (by decide)) (fun e => absurd e (by decide))).sR (c := 13) (f := 33) (i := 0) (v := (26, 11)) (m := 1) (by decide +kernel) (by decide) (by decide +kernel)
  have xs16 := (xs15.nA (c := 26) (n := 6) (by decide) (by decide)).sR (c := 13) (f := 33) (i := 0) (v := some (26, 11)) (by decide)
  rw [← e] at gs16 xs16
  clear e gs15 xs15
  refine ⟨_, _, rfl, rfl, fun s17 e => ?_⟩
  rw [show cnt s16 26 = 12 from gs16.c (by decide +kernel)] at e
  have gs17 := (gs16.nA (n := 6) (c := 26) (m := 12) (by decide +kernel) (fun e => absurd e (by decide)) (fun e => absurd e (by decide))).sR (c := 13) (f := 34) (i := 0) (v := (26, 12)) (m := 1) (by decide +kernel) (by decide) (by decide +kernel)
  have xs17 := (xs16.nA (c := 26) (n := 6) (by decide) (by decide)).sR (c := 13) (f := 34) (i := 0) (v := some (26, 12)) (by decide)
  rw [← e] at gs17 xs17
  clear e gs16 xs16
  refine ⟨_, _, rfl, rfl, fun s18 e => ?_⟩
  rw [show cnt s17 26 = 13 from gs17.c (by decide +kernel)] at e
  have gs18 := (gs17.nA (n := 6) (c := 26) (m := 13) (by decide +kernel) (fun e => absurd e (by decide)) (fun e => absurd e (by decide))).sR (c := 13) (f := 35) (i := 0) (v := (26, 13)) (m := 1) (by decide +kernel) (by decide) (by decide +kernel)
  have xs18 := (xs17.nA (c := 26) (n := 6) (by decide) (by decide)).sR (c := 13) (f := 35) (i := 0) (v := some (26, 13)) (by decide)
  rw [← e] at gs18 xs18
  clear e gs17 xs17
  refine ⟨_, _, rfl, rfl, fun s19 e => ?_⟩
  rw [show cnt s18 26 = 14 from gs18.c (by decide +kernel)] at e
  have gs19 := (gs18.nA (n := 6) (c := 26) (m := 14) (by decide +kernel) (fun e => absurd e (by decide)) (fun e => absurd e (by decide))).sR (c := 13) (f := 36) (i := 0) (v := (26, 14)) (m := 1) (by decide +kernel) (by decide) (by decide +kernel)
  have xs19 := (xs18.nA (c := 26) (n := 6) (by decide) (by decide)).sR (c := 13) (f := 36) (i := 0) (v := some (26, 14)) (by decide)
  rw [← e] at gs19 xs19
  clear e gs18 xs18
  refine ⟨_, _, rfl, rfl, fun s20 e => ?_⟩
  rw [show cnt s19 26 = 15 from gs19.c (by decide +kernel)] at e
  have gs20 := (gs19.nA (n := 6) (c := 26) (m := 15) (by decide +kernel) (fun e => absurd e (by decide)) (fun e => absurd e (by decide))).sR (c := 13) (f := 38) (i := 0) (v := (26, 15)) (m := 1) (by decide +kernel) (by decide) (by decide +kernel)
  have xs20 := (xs19.nA (c := 26) (n := 6) (by decide) (by decide)).sR (c := 13) (f := 38) (i := 0) (v := some (26, 15)) (by decide)
  rw [← e] at gs20 xs20
  clear e gs19 xs19
  refine ⟨_, _, rfl, rfl, fun s21 e => ?_⟩
  rw [show cnt s20 26 = 16 from gs20.c (by decide +kernel)] at e
  have gs21 := (gs20.nA (n := 6) (c := 26) (m := 16) (by decide +kernel) (fun e => absurd e (by decide)) (fun e => absurd e (by decide))).sR (c := 13) (f := 39) (i := 0) (v := (26, 16)) (m := 1) (by decide +kernel) (by decide) (by decide +kernel)
  have xs21 := (xs20.nA (c := 26) (n := 6) (by decide) (by decide)).sR (c := 13) (f := 39) (i := 0) (v := some (26, 16)) (by decide)
  rw [← e] at gs21 xs21
  clear e gs20 xs20
  refine ⟨_, _, rfl, rfl, fun s22 e => ?_⟩
  rw [show cnt s21 26 = 17 from gs21.c (by decide +kernel)] at e
  have gs22 := (gs21.nA (n := 6) (c := 26) (m := 17) (by decide +kernel) (fun e => absurd e (by decide)) (fun e => absurd e (by decide))).sR (c := 13) (f := 40) (i := 0) (v := (26, 17)) (m := 1) (by decide +kernel) (by decide) (by decide +kernel)
  have xs22 := (xs21.nA (c := 26) (n := 6) (by decide) (by decide)).sR (c := 13) (f := 40) (i := 0) (v := some (26, 17)) (by decide)
  rw [← e] at gs22 xs22
  clear e gs21 xs21
  refine ⟨_, _, rfl, rfl, fun s23 e => ?_⟩
  rw [show cnt s22 26 = 18 from gs22.c (by decide +kernel)] at e
  have gs23 := (gs22.nA (n := 6) (c := 26) (m := 18) (by decide +kernel) (fun e => absurd e (by decide)) (fun e => absurd e (by decide))).sR (c := 13) (f := 41) (i := 0) (v := (26, 18)) (m := 1) (by decide +kernel) (by decide) (by decide +kernel)
  have xs23 := (xs22.nA (c := 26) (n := 6) (by decide) (by decide)).sR (c := 13) (f := 41) (i := 0) (v := some (26, 18)) (by decide)
  rw [← e] at gs23 xs23
  clear e gs22 xs22
  refine ⟨_, _, rfl, rfl, fun s24 e => ?_⟩
  rw [show cnt s23 26 = 19 from gs23.c (by decide +kernel)] at e
  have gs24 := (gs23.nA (n := 6) (c := 26) (m := 19) (by decide +kernel) (fun e => absurd e (by decide)) (fun e => absurd e (by decide))).sR (c := 13) (f := 42) (i := 0) (v := (26, 19)) (m := 1) (by decide +kernel) (by decide) (by decide +kernel)
  have xs24 := (xs23.nA (c := 26) (n := 6) (by decide) (by decide)).sR (c := 13) (f := 42) (i := 0) (v := some (26, 19)) (by decide)
  rw [← e] at gs24 xs24
  clear e gs23 xs23
  refine ⟨_, _, rfl, rfl, fun s25 e => ?_⟩
  rw [show cnt s24 26 = 20 from gs24.c (by decide +kernel)] at e
  have gs25 := (gs24.nA (n := 40) (c := 26) (m := 20) (by decide +kernel) (fun e => absurd e (by decide)) (fun e => absurd e (by decide))).sR (c := 13) (f := 43) (i := 0) (v := (26, 20)) (m := 1) (by decide +kernel) (by decide) (by decide +kernel)
  have xs25 := (xs24.nA (c := 26) (n := 40) (by decide) (by decide)).sR (c := 13) (f := 43) (i := 0) (v := some (26, 20)) (by decide)
  rw [← e] at gs25 xs25
  clear e gs24 xs24
  refine ⟨_, _, rfl, rfl, fun s26 e => ?_⟩
  rw [show cnt s25 21 = 1 from gs25.c (by decide +kernel)] at e
  have gs26 := (gs25.nA (n := 40) (c := 21) (m := 1) (by decide +kernel) (fun e => absurd e (by decide)) (fun e => absurd e (by decide))).sR (c := 13) (f := 44) (i := 0) (v := (21, 1)) (m := 1) (by decide +kernel) (by decide) (by decide +kernel)
  have xs26 := (xs25.nA (c := 21) (n := 40) (by decide) (by decide)).sR (c := 13) (f := 44) (i := 0) (v := some (21, 1)) (by decide)
  rw [← e] at gs26 xs26
  clear e gs25 xs25
  refine ⟨_, _, rfl, rfl, fun s27 e => ?_⟩
  rw [show cnt s26 26 = 21 from gs26.c (by decide +kernel)] at e
  have gs27 := (gs26.nA (n := 6) (c := 26) (m := 21) (by decide +kernel) (fun e => absurd e (by decide)) (fun e => absurd e (by decide))).sR (c := 13) (f := 45) (i := 0) (v := (26, 21)) (m := 1) (by decide +kernel) (by decide) (by decide +kernel)
  have xs27 := (xs26.nA (c := 26) (n := 6) (by decide) (by decide)).sR (c := 13) (f := 45) (i := 0) (v := some (26, 21)) (by decide)
  rw [← e] at gs27 xs27
  clear e gs26 xs26
  refine ⟨_, _, rfl, rfl, fun s28 e => ?_⟩
  rw [show cnt s27 21 = 2 from gs27.c (by decide +kernel)] at e
  have gs28 := (gs27.nA (n := 40) (c := 21) (m := 2) (by decide +kernel) (fun e => absurd e (by decide)) (fun e => absurd e (by decide))).sR (c := 13) (f := 46) (i := 0) (v := (21, 2)) (m := 1) (by decide +kernel) (by decide) (by decide +kernel)
  have xs28 := (xs27.nA (c := 21) (n := 40) (by decide) (by decide)).sR (c := 13) (f := 46) (i := 0) (v := some (21, 2)) (by decide)
  rw [← e] at gs28 xs28
  clear e gs27 xs27
  refine ⟨_, _, rfl, rfl, fun s29 e => ?_⟩
  rw [show cnt s28 26 = 22 from gs28.c (by decide +kernel)] at e
  have gs29 := (gs28.nA (n := 40) (c := 26) (m := 22) (by decide +kernel) (fun e => absurd e (by decide)) (fun e => absurd e (by decide))).sR (c := 13) (f := 47) (i := 0) (v := (26, 22)) (m := 1) (by decide +kernel) (by decide) (by decide +kernel)
  have xs29 := (xs28.nA (c := 26) (n := 40) (by decide) (by decide)).sR (c := 13) (f := 47) (i := 0) (v := some (26, 22)) (by decide)
  rw [← e] at gs29 xs29
  clear e gs28 xs28
  refine ⟨_, _, rfl, rfl, fun s30 e => ?_⟩
  rw [show cnt s29 26 = 23 from gs29.c (by decide +kernel)] at e
  have gs30 := (gs29.nA (n := 30) (c := 26) (m := 23) (by decide +kernel) (fun e => absurd e (by decide)) (fun e => absurd e (by decide))).sR (c := 13) (f := 50) (i := 0) (v := (26, 23)) (m := 1) (by decide +kernel) (by decide) (by decide +kernel)
  have xs30 := (xs29.nA (c := 26) (n := 30) (by decide) (by decide)).sR (c := 13) (f := 50) (i := 0) (v := some (26, 23)) (by decide)
  rw [← e] at gs30 xs30
  clear e gs29 xs29
  refine ⟨_, _, rfl, rfl, fun s31 e => ?_⟩
  rw [show cnt s30 26 = 24 from gs30.c (by decide +kernel)] at e
  have gs31 := (gs30.nA (n := 240) (c := 26) (m := 24) (by decide +kernel) (fun e => absurd e (by decide)) (fun e => absurd e (by decide))).sR (c := 13) (f := 51) (i := 0) (v := (26, 24)) (m := 1) (by decide +kernel) (by decide) (by decide +kernel)
  have xs31 := (xs30.nA (c := 26) (n := 240) (by decide) (by decide)).sR (c := 13) (f := 51) (i := 0) (v := some (26, 24)) (by decide)
  rw [← e] at gs31 xs31
  clear e gs30 xs30
  refine ⟨_, _, rfl, rfl, fun s32 e => ?_⟩
  rw [show cnt s31 26 = 25 from gs31.c (by decide +kernel)] at e
  have gs32 := (gs31.nA (n := 240) (c := 26) (m := 25) (by decide +kernel) (fun e => absurd e (by decide)) (fun e => absurd e (by decide))).sR (c := 13) (f := 52) (i := 0) (v := (26, 25)) (m := 1) (by decide +kernel) (by decide) (by decide +kernel)
  have xs32 := (xs31.nA (c := 26) (n := 240) (by decide) (by decide)).sR (c := 13) (f := 52) (i := 0) (v := some (26, 25)) (by decide)
  rw [← e] at gs32 xs32
  clear e gs31 xs31
  refine ⟨_, _, rfl, rfl, fun s33 e => ?_⟩
  rw [show cnt s32 26 = 26 from gs32.c (by decide +kernel)] at e
  have gs33 := (gs32.nA (n := 240) (c := 26) (m := 26) (by decide +kernel) (fun e => absurd e (by decide)) (fun e => absurd e (by decide))).sR (c := 13) (f := 53) (i := 0) (v := (26, 26)) (m := 1) (by decide +kernel) (by decide) (by decide +kernel)
  have xs33 := (xs32.nA (c := 26) (n := 240) (by decide) (by decide)).sR (c := 13) (f := 53) (i := 0) (v := some (26, 26)) (by decide)
  rw [← e] at gs33 xs33
  clear e gs32 xs32
  refine ⟨_, _, rfl, rfl, fun s34 e => ?_⟩
  rw [show cnt s33 21 = 3 from gs33.c (by decide +kernel)] at e
  have gs34 := (gs33.nA (n := 240) (c := 21) (m := 3) (by decide +kernel) (fun e => absurd e (by decide)) (fun e => absurd e (by decide))).sR (c := 13) (f := 54) (i := 0) (v := (21, 3)) (m := 1) (by decide +kernel) (by decide) (by decide +kernel)
  have xs34 := (xs33.nA (c := 21) (n := 240) (by decide) (by decide)).sR (c := 13) (f := 54) (i := 0) (v := some (21, 3)) (by decide)
  rw [← e] at gs34 xs34
  clear e gs33 xs33
  refine ⟨_, _, rfl, rfl, fun s35 e => ?_⟩
  rw [show cnt s34 26 = 27 from gs34.c (by decide +kernel)] at e
  have gs35 := (gs34.nA (n := 2400) (c := 26) (m := 27) (by decide +kernel) (fun e => absurd e (by decide)) (fun e => absurd e (by decide))).sR (c := 13) (f := 56) (i := 0) (v := (26, 27)) (m := 1) (by decide +kernel) (by decide) (by decide +kernel)
  have xs35 := (xs34.nA (c := 26) (n := 2400) (by decide) (by decide)).sR (c := 13) (f := 56) (i := 0) (v := some (26, 27)) (by decide)
  rw [← e] at gs35 xs35
  clear e gs34 xs34
  refine ⟨_, _, rfl, rfl, fun s36 e => ?_⟩
  rw [show cnt s35 26 = 28 from gs35.c (by decide +kernel)] at e
  have gs36 := (gs35.nA (n := 2400) (c := 26) (m := 28) (by decide +kernel) (fun e => absurd e (by decide)) (fun e => absurd e (by decide))).sR (c := 13) (f := 57) (i := 0) (v := (26, 28)) (m := 1) (by decide +kernel) (by decide) (by decide +kernel)
  have xs36 := (xs35.nA (c := 26) (n := 2400) (by decide) (by decide)).sR (c := 13) (f := 57) (i := 0) (v := some (26, 28)) (by decide)
  rw [← e] at gs36 xs36
  clear e gs35 xs35
  refine ⟨_, _, rfl, rfl, fun s37 e => ?_⟩
  rw [show cnt s36 26 = 29 from gs36.c (by decide +kernel)] at e
  have gs37 := (gs36.nA (n := 2400) (c := 26) (m := 29) (by decide +kernel) (fun e => absurd e (by decide)) (fun e => absurd e (by decide))).sR (c := 13) (f := 58) (i := 0) (v := (26, 29)) (m := 1) (by decide +kernel) (by decide) (by decide +kernel)
  have xs37 := (xs36.nA (c := 26) (n := 2400) (by decide) (by decide)).sR (c := 13) (f := 58) (i := 0) (v := some (26, 29)) (by decide)
  rw [← e] at gs37 xs37
  clear e gs36 xs36
  refine ⟨_, _, rfl, rfl, fun s38 e => ?_⟩
  rw [show cnt s37 26 = 30 from gs37.c (by decide +kernel)] at e
  have gs38 := (gs37.nA (n := 2400) (c := 26) (m := 30) (by decide +kernel) (fun e => absurd e (by decide)) (fun e => absurd e (by decide))).sR (c := 13) (f := 59) (i := 0) (v := (26, 30)) (m := 1) (by decide +kernel) (by decide) (by decide +kernel)
  have xs38 := (xs37.nA (c := 26) (n := 2400) (by decide) (by decide)).sR (c := 13) (f := 59) (i := 0) (v := some (26, 30)) (by decide)
  rw [← e] at gs38 xs38
  clear e gs37 xs37
  refine ⟨_, _, rfl, rfl, fun s39 e => ?_⟩
  rw [show cnt s38 26 = 31 from gs38.c (by decide +kernel)] at e
  have gs39 := (gs38.nA (n := 2400) (c := 26) (m := 31) (by decide +kernel) (fun e => absurd e (by decide)) (fun e => absurd e (by decide))).sR (c := 13) (f := 60) (i := 0) (v := (26, 31)) (m := 1) (by decide +kernel) (by decide) (by decide +kernel)
  have xs39 := (xs38.nA (c := 26) (n := 2400) (by decide) (by decide)).sR (c := 13) (f := 60) (i := 0) (v := some (26, 31)) (by decide)
  rw [← e] at gs39 xs39
  clear e gs38 xs38
  refine ⟨_, _, rfl, rfl, fun s40 e => ?_⟩
  rw [show cnt s39 26 = 32 from gs39.c (by decide +kernel)] at e
  have gs40 := (gs39.nA (n := 2400) (c := 26) (m := 32) (by decide +kernel) (fun e => absurd e (by decide)) (fun e => absurd e (by decide))).sR (c := 13) (f := 61) (i := 0) (v := (26, 32)) (m := 1) (by decide +kernel) (by decide) (by decide +kernel)
  have xs40 := (xs39.nA (c := 26) (n := 2400) (by decide) (by decide)).sR (c := 13) (f := 61) (i := 0) (v := some (26, 32)) (by decide)
  rw [← e] at gs40 xs40
  clear e gs39 xs39
  refine ⟨_, _, rfl, rfl, fun s41 e => ?_⟩
  rw [show cnt s40 26 = 33 from gs40.c (by decide +kernel)] at e
  have gs41 := (gs40.nA (n := 5) (c := 26) (m := 33) (by decide +kernel) (fun e => absurd e (by decide)) (fun e => absurd e (by decide))).sR (c := 13) (f := 62) (i := 0) (v := (26, 33)) (m := 1) (by decide +kernel) (by decide) (by decide +kernel)
  have xs41 := (xs40.nA (c := 26) (n := 5) (by decide) (by decide)).sR (c := 13) (f := 62) (i := 0) (v := some (26, 33)) (by decide)
  rw [← e] at gs41 xs41
  clear e gs40 xs40
  refine ⟨_, _, rfl, rfl, fun s42 e => ?_⟩
  rw [show cnt s41 21 = 4 from gs41.c (by decide +kernel)] at e
  have gs42 := (gs41.nA (n := 40) (c := 21) (m := 4) (by decide +kernel) (fun e => absurd e (by decide)) (fun e => absurd e (by decide))).sR (c := 13) (f := 63) (i := 0) (v := (21, 4)) (m := 1) (by decide +kernel) (by decide) (by decide +kernel)
  have xs42 := (xs41.nA (c := 21) (n := 40) (by decide) (by decide)).sR (c := 13) (f := 63) (i := 0) (v := some (21, 4)) (by decide)
  rw [← e] at gs42 xs42
  clear e gs41 xs41
  refine ⟨_, _, rfl, rfl, fun s43 e => ?_⟩
  rw [show cnt s42 26 = 34 from gs42.c (by decide +kernel)] at e
  have gs43 := (gs42.nA (n := 40) (c := 26) (m := 34) (by decide +kernel) (fun e => absurd e (by decide)) (fun e => absurd e (by decide))).sR (c := 13) (f := 64) (i := 0) (v := (26, 34)) (m := 1) (by decide +kernel) (by decide) (by decide +kernel)
  have xs43 := (xs42.nA (c := 26) (n := 40) (by decide) (by decide)).sR (c := 13) (f := 64) (i := 0) (v := some (26, 34)) (by decide)
  rw [← e] at gs43 xs43
  clear e gs42 xs42
  refine ⟨_, _, rfl, rfl, fun s44 e => ?_⟩
  rw [show cnt s43 26 = 35 from gs43.c (by decide +kernel)] at e
  have gs44 := (gs43.nA (n := 40) (c := 26) (m := 35) (by decide +kernel) (fun e => absurd e (by decide)) (fun e => absurd e (by decide))).sR (c := 13) (f := 65) (i := 0) (v := (26, 35)) (m := 1) (by decide +kernel) (by decide) (by decide +kernel)
  have xs44 := (xs43.nA (c := 26) (n := 40) (by decide) (by decide)).sR (c := 13) (f := 65) (i := 0) (v := some (26, 35)) (by decide)
  rw [← e] at gs44 xs44
  clear e gs43 xs43
  refine ⟨_, _, rfl, rfl, fun s45 e => ?_⟩
  rw [show cnt s44 26 = 36 from gs44.c (by decide +kernel)] at e
  have gs45 := (gs44.nA (n := 40) (c := 26) (m := 36) (by decide +kernel) (fun e => absurd e (by decide)) (fun e => absurd e (by decide))).sR (c := 13) (f := 66) (i := 0) (v := (26, 36)) (m := 1) (by decide +kernel) (by decide) (by decide +kernel)
  have xs45 := (xs44.nA (c := 26) (n := 40) (by decide) (by decide)).sR (c := 13) (f := 66) (i := 0) (v := some (26, 36)) (by decide)
  rw [← e] at gs45 xs45
  clear e gs44 xs44
  exact h _ xs45 ⟨fun t ht => gs45.1 t ((show ∀ t ∈ stTab, t ∈ _ by decide +kernel) t ht), fun t ht => gs45.2.1 t ((show ∀ t ∈ lenTab, t ∈ _ by decide +kernel) t ht)⟩ (Gr.to gs45 (by decide +kernel) (by decide +kernel) (by decide +kernel))
end MINIT
