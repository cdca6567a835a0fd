/-! every call, with what stands in cells 31, 32 -/
theorem z_status : Sim_status RelZ := by
  intro dA dB cA cB h
  obtain ⟨r, dA', dB', e1, e2, e3⟩ := s_status dA dB cA cB h.1
  exact ⟨r, dA', dB', e1, e2, e3, h.2.fs (Fs.of (fr_PB_status dA cA.2.2 e1) (by decide) (by decide))⟩
theorem z_tray : Sim_tray RelZ := by
  intro p1 p2 p3 dA dB k0 k1 k2 cA cB h
  obtain ⟨r, dA', dB', e1, e2, e3⟩ := s_tray p1 p2 p3 dA dB k0 k1 k2 cA cB h.1
  exact ⟨r, dA', dB', e1, e2, e3, h.2.fs (Fs.of (fr_PB_tray p1 p2 p3 dA cA.2.2 e1) (by decide) (by decide))⟩
theorem z_write : Sim_write RelZ := by
  intro p1 p2 p3 dA dB k0 k1 k2 cA cB h
  obtain ⟨r, dA', dB', e1, e2, e3⟩ := s_write p1 p2 p3 dA dB k0 k1 k2 cA cB h.1
  exact ⟨r, dA', dB', e1, e2, e3, h.2.fs (Fs.of (fr_PB_write p1 p2 p3 dA cA.2.2 e1) (by decide) (by decide))⟩
theorem z_read : Sim_read RelZ := by
  intro p1 p2 dA dB k0 k1 cA cB h
  obtain ⟨r, dA', dB', e1, e2, e3⟩ := s_read p1 p2 dA dB k0 k1 cA cB h.1
  exact ⟨r, dA', dB', e1, e2, e3, h.2.fs (Fs.of (fr_PB_read p1 p2 dA cA.2.2 e1) (by decide) (by decide))⟩
theorem z_pour : Sim_pour RelZ := by
  intro p1 p2 p3 p4 p5 dA dB k0 k1 k2 k3 k4 cA cB h
  obtain ⟨r, dA', dB', e1, e2, e3⟩ := s_pour p1 p2 p3 p4 p5 dA dB k0 k1 k2 k3 k4 cA cB h.1
  exact ⟨r, dA', dB', e1, e2, e3, h.2.fs (Fs.of (fr_PB_pour p1 p2 p3 p4 p5 dA cA.2.2 e1) (by decide) (by decide))⟩
theorem z_far : Sim_far RelZ := by
  intro p1 p2 dA dB k0 k1 cA cB h
  obtain ⟨r, dA', dB', e1, e2, e3⟩ := s_far p1 p2 dA dB k0 k1 cA cB h.1
  exact ⟨r, dA', dB', e1, e2, e3, h.2.fs (Fs.of (fr_PB_far p1 p2 dA cA.2.2 e1) (by decide) (by decide))⟩
theorem z_person : Sim_person RelZ := by
  intro p1 p2 p3 dA dB k0 k1 k2 cA cB h
  obtain ⟨r, dA', dB', e1, e2, e3⟩ := s_person p1 p2 p3 dA dB k0 k1 k2 cA cB h.1
  exact ⟨r, dA', dB', e1, e2, e3, h.2.fs (Fs.of (fr_PB_person p1 p2 p3 dA cA.2.2 e1) (by decide) (by decide))⟩
theorem z_hold : Sim_hold RelZ := by
  intro p1 p2 p3 p4 p5 p6 dA dB k0 k1 k2 k3 k4 k5 cA cB h
  obtain ⟨r, dA', dB', e1, e2, e3⟩ := s_hold p1 p2 p3 p4 p5 p6 dA dB k0 k1 k2 k3 k4 k5 cA cB h.1
  exact ⟨r, dA', dB', e1, e2, e3, h.2.fs (Fs.of (fr_PB_hold p1 p2 p3 p4 p5 p6 dA cA.2.2 e1) (by decide) (by decide))⟩
theorem z_split : Sim_split RelZ := by
  intro p1 p2 p3 dA dB k0 k1 k2 cA cB h
  obtain ⟨r, dA', dB', e1, e2, e3⟩ := s_split p1 p2 p3 dA dB k0 k1 k2 cA cB h.1
  exact ⟨r, dA', dB', e1, e2, e3, h.2.fs (Fs.of (fr_PB_split p1 p2 p3 dA cA.2.2 e1) (by decide) (by decide))⟩
theorem z_pay : Sim_pay RelZ := by
  intro p1 p2 p3 p4 p5 dA dB k0 k1 k2 k3 k4 cA cB h
  obtain ⟨r, dA', dB', e1, e2, e3⟩ := s_pay p1 p2 p3 p4 p5 dA dB k0 k1 k2 k3 k4 cA cB h.1
  exact ⟨r, dA', dB', e1, e2, e3, h.2.fs (Fs.of (fr_PB_pay p1 p2 p3 p4 p5 dA cA.2.2 e1) (by decide) (by decide))⟩
theorem z_asof : Sim_asof RelZ := by
  intro p1 dA dB k0 cA cB h
  obtain ⟨r, dA', dB', e1, e2, e3⟩ := s_asof p1 dA dB k0 cA cB h.1
  exact ⟨r, dA', dB', e1, e2, e3, h.2.fs (Fs.of (fr_PB_asof p1 dA cA.2.2 e1) (by decide) (by decide))⟩
theorem z_fact : Sim_fact RelZ := by
  intro p1 p2 p3 p4 dA dB k0 k1 k2 k3 cA cB h
  obtain ⟨r, dA', dB', e1, e2, e3⟩ := s_fact p1 p2 p3 p4 dA dB k0 k1 k2 k3 cA cB h.1
  exact ⟨r, dA', dB', e1, e2, e3, h.2.fs (Fs.of (fr_PB_fact p1 p2 p3 p4 dA cA.2.2 e1) (by decide) (by decide))⟩
theorem z_feed : Sim_feed RelZ := by
  intro p1 p2 p3 p4 p5 dA dB k0 k1 k2 k3 k4 cA cB h
  obtain ⟨r, dA', dB', e1, e2, e3⟩ := s_feed p1 p2 p3 p4 p5 dA dB k0 k1 k2 k3 k4 cA cB h.1
  exact ⟨r, dA', dB', e1, e2, e3, h.2.fs (Fs.of (fr_PB_feed p1 p2 p3 p4 p5 dA cA.2.2 e1) (by decide) (by decide))⟩
theorem z_fault : Sim_fault RelZ := by
  intro p1 dA dB k0 cA cB h
  obtain ⟨r, dA', dB', e1, e2, e3⟩ := s_fault p1 dA dB k0 cA cB h.1
  exact ⟨r, dA', dB', e1, e2, e3, h.2.fs (Fs.of (fr_PB_fault p1 dA cA.2.2 e1) (by decide) (by decide))⟩
theorem z_rules : Sim_rules RelZ := by
  intro p1 p2 dA dB k0 k1 cA cB h
  obtain ⟨r, dA', dB', e1, e2, e3⟩ := s_rules p1 p2 dA dB k0 k1 cA cB h.1
  exact ⟨r, dA', dB', e1, e2, e3, h.2.fs (fs_PB_rules p1 p2 dA cA.2.2 e1)⟩
theorem z_struck : Sim_struck RelZ := by
  intro p1 p2 p3 dA dB k0 k1 k2 cA cB h
  obtain ⟨r, dA', dB', e1, e2, e3⟩ := s_struck p1 p2 p3 dA dB k0 k1 k2 cA cB h.1
  exact ⟨r, dA', dB', e1, e2, e3, h.2.fs (fs_PB_struck p1 p2 p3 dA cA.2.2 e1)⟩
theorem z_right : Sim_right RelZ := by
  intro p1 p2 p3 p4 dA dB k0 k1 k2 k3 cA cB h
  obtain ⟨r, dA', dB', e1, e2, e3⟩ := s_right p1 p2 p3 p4 dA dB k0 k1 k2 k3 cA cB h.1
  exact ⟨r, dA', dB', e1, e2, e3, h.2.fs (fs_PB_right p1 p2 p3 p4 dA cA.2.2 e1)⟩
theorem z_why : Sim_why RelZ := by
  intro p1 p2 p3 p4 dA dB k0 k1 k2 k3 cA cB h
  obtain ⟨r, dA', dB', e1, e2, e3⟩ := s_why p1 p2 p3 p4 dA dB k0 k1 k2 k3 cA cB h.1
  exact ⟨r, dA', dB', e1, e2, e3, h.2.fs (fs_PB_why p1 p2 p3 p4 dA cA.2.2 e1)⟩
theorem z_voided : Sim_voided RelZ := by
  intro p1 p2 p3 p4 dA dB k0 k1 k2 k3 cA cB h
  obtain ⟨r, dA', dB', e1, e2, e3⟩ := s_voided p1 p2 p3 p4 dA dB k0 k1 k2 k3 cA cB h.1
  exact ⟨r, dA', dB', e1, e2, e3, h.2.fs (fs_PB_voided p1 p2 p3 p4 dA cA.2.2 e1)⟩
theorem z_names : Sim_names RelZ := by
  intro p1 p2 dA dB k0 k1 cA cB h
  obtain ⟨r, dA', dB', e1, e2, e3⟩ := s_names p1 p2 dA dB k0 k1 cA cB h.1
  exact ⟨r, dA', dB', e1, e2, e3, h.2.fs (fs_PB_names p1 p2 dA cA.2.2 e1)⟩
theorem z_entry : Sim_entry RelZ := by
  intro p1 p2 p3 p4 p5 dA dB k0 k1 k2 k3 k4 cA cB h
  obtain ⟨r, dA', dB', e1, e2, e3⟩ := s_entry p1 p2 p3 p4 p5 dA dB k0 k1 k2 k3 k4 cA cB h.1
  exact ⟨r, dA', dB', e1, e2, e3, h.2.fs (Fs.of (fr_PB_entry p1 p2 p3 p4 p5 dA cA.2.2 e1) (by decide) (by decide))⟩
theorem z_join : Sim_join RelZ := by
  intro p1 dA dB k0 cA cB h
  obtain ⟨r, dA', dB', e1, e2, e3⟩ := s_join p1 dA dB k0 cA cB h.1
  exact ⟨r, dA', dB', e1, e2, e3, h.2.fs (Fs.of (fr_PB_join p1 dA cA.2.2 e1) (by decide) (by decide))⟩
theorem z_mate : Sim_mate RelZ := by
  intro p1 p2 dA dB k0 k1 cA cB h
  obtain ⟨r, dA', dB', e1, e2, e3⟩ := s_mate p1 p2 dA dB k0 k1 cA cB h.1
  exact ⟨r, dA', dB', e1, e2, e3, h.2.fs (Fs.of (fr_PB_mate p1 p2 dA cA.2.2 e1) (by decide) (by decide))⟩
theorem z_joined : Sim_joined RelZ := by
  intro p1 dA dB k0 cA cB h
  obtain ⟨r, dA', dB', e1, e2, e3⟩ := s_joined p1 dA dB k0 cA cB h.1
  exact ⟨r, dA', dB', e1, e2, e3, h.2.fs (Fs.of (fr_PB_joined p1 dA cA.2.2 e1) (by decide) (by decide))⟩
theorem z_tally : Sim_tally RelZ := by
  intro p1 p2 dA dB k0 k1 cA cB h
  obtain ⟨r, dA', dB', e1, e2, e3⟩ := s_tally p1 p2 dA dB k0 k1 cA cB h.1
  exact ⟨r, dA', dB', e1, e2, e3, h.2.fs (Fs.of (fr_PB_tally p1 p2 dA cA.2.2 e1) (by decide) (by decide))⟩
theorem z_reach : Sim_reach RelZ := by
  intro p1 dA dB k0 cA cB h
  obtain ⟨r, dA', dB', e1, e2, e3⟩ := s_reach p1 dA dB k0 cA cB h.1
  exact ⟨r, dA', dB', e1, e2, e3, h.2.fs (Fs.of (fr_PB_reach p1 dA cA.2.2 e1) (by decide) (by decide))⟩
theorem z_who : Sim_who RelZ := by
  intro p1 dA dB k0 cA cB h
  obtain ⟨r, dA', dB', e1, e2, e3⟩ := s_who p1 dA dB k0 cA cB h.1
  exact ⟨r, dA', dB', e1, e2, e3, h.2.fs (Fs.of (fr_PB_who p1 dA cA.2.2 e1) (by decide) (by decide))⟩
theorem z_sure : Sim_sure RelZ := by
  intro p1 p2 dA dB k0 k1 cA cB h
  obtain ⟨r, dA', dB', e1, e2, e3⟩ := s_sure p1 p2 dA dB k0 k1 cA cB h.1
  exact ⟨r, dA', dB', e1, e2, e3, h.2.fs (Fs.of (fr_PB_sure p1 p2 dA cA.2.2 e1) (by decide) (by decide))⟩
theorem z_offer : Sim_offer RelZ := by
  intro p1 p2 p3 dA dB k0 k1 k2 cA cB h
  obtain ⟨r, dA', dB', e1, e2, e3⟩ := s_offer p1 p2 p3 dA dB k0 k1 k2 cA cB h.1
  exact ⟨r, dA', dB', e1, e2, e3, h.2.fs (Fs.of (fr_PB_offer p1 p2 p3 dA cA.2.2 e1) (by decide) (by decide))⟩
theorem z_standing : Sim_standing RelZ := by
  intro p1 p2 p3 dA dB k0 k1 k2 cA cB h
  obtain ⟨r, dA', dB', e1, e2, e3⟩ := s_standing p1 p2 p3 dA dB k0 k1 k2 cA cB h.1
  exact ⟨r, dA', dB', e1, e2, e3, h.2.fs (fs_PB_standing p1 p2 p3 dA cA.2.2 e1)⟩
theorem z_stands : Sim_stands RelZ := by
  intro p1 p2 p3 dA dB k0 k1 k2 cA cB h
  obtain ⟨r, dA', dB', e1, e2, e3⟩ := s_stands p1 p2 p3 dA dB k0 k1 k2 cA cB h.1
  exact ⟨r, dA', dB', e1, e2, e3, h.2.fs (fs_PB_stands p1 p2 p3 dA cA.2.2 e1)⟩
theorem z_poll : Sim_poll RelZ := by
  intro p1 p2 p3 p4 dA dB k0 k1 k2 k3 cA cB h
  obtain ⟨r, dA', dB', e1, e2, e3⟩ := s_poll p1 p2 p3 p4 dA dB k0 k1 k2 k3 cA cB h.1
  exact ⟨r, dA', dB', e1, e2, e3, h.2.fs (fs_PB_poll p1 p2 p3 p4 dA cA.2.2 e1)⟩
theorem z_seated : Sim_seated RelZ := by
  intro p1 p2 p3 p4 dA dB k0 k1 k2 k3 cA cB h
  obtain ⟨r, dA', dB', e1, e2, e3⟩ := s_seated p1 p2 p3 p4 dA dB k0 k1 k2 k3 cA cB h.1
  exact ⟨r, dA', dB', e1, e2, e3, h.2.fs (fs_PB_seated p1 p2 p3 p4 dA cA.2.2 e1)⟩
theorem z_ground : Sim_ground RelZ := by
  intro p1 p2 dA dB k0 k1 cA cB h
  obtain ⟨r, dA', dB', e1, e2, e3⟩ := s_ground p1 p2 dA dB k0 k1 cA cB h.1
  exact ⟨r, dA', dB', e1, e2, e3, h.2.fs (Fs.of (fr_PB_ground p1 p2 dA cA.2.2 e1) (by decide) (by decide))⟩
theorem z_against : Sim_against RelZ := by
  intro p1 p2 dA dB k0 k1 cA cB h
  obtain ⟨r, dA', dB', e1, e2, e3⟩ := s_against p1 p2 dA dB k0 k1 cA cB h.1
  exact ⟨r, dA', dB', e1, e2, e3, h.2.fs (Fs.of (fr_PB_against p1 p2 dA cA.2.2 e1) (by decide) (by decide))⟩
theorem z_written : Sim_written RelZ := by
  intro p1 p2 dA dB k0 k1 cA cB h
  obtain ⟨r, dA', dB', e1, e2, e3⟩ := s_written p1 p2 dA dB k0 k1 cA cB h.1
  exact ⟨r, dA', dB', e1, e2, e3, h.2.fs (Fs.of (fr_PB_written p1 p2 dA cA.2.2 e1) (by decide) (by decide))⟩
theorem z_turns : Sim_turns RelZ := by
  intro p1 p2 dA dB k0 k1 cA cB h
  obtain ⟨r, dA', dB', e1, e2, e3⟩ := s_turns p1 p2 dA dB k0 k1 cA cB h.1
  exact ⟨r, dA', dB', e1, e2, e3, h.2.fs (Fs.of (fr_PB_turns p1 p2 dA cA.2.2 e1) (by decide) (by decide))⟩
theorem z_member : Sim_member RelZ := by
  intro p1 p2 dA dB k0 k1 cA cB h
  obtain ⟨r, dA', dB', e1, e2, e3⟩ := s_member p1 p2 dA dB k0 k1 cA cB h.1
  exact ⟨r, dA', dB', e1, e2, e3, h.2.fs (Fs.of (fr_PB_member p1 p2 dA cA.2.2 e1) (by decide) (by decide))⟩
theorem z_kin : Sim_kin RelZ := by
  intro p1 p2 dA dB k0 k1 cA cB h
  obtain ⟨r, dA', dB', e1, e2, e3⟩ := s_kin p1 p2 dA dB k0 k1 cA cB h.1
  exact ⟨r, dA', dB', e1, e2, e3, h.2.fs (Fs.of (fr_PB_kin p1 p2 dA cA.2.2 e1) (by decide) (by decide))⟩
theorem z_draw : Sim_draw RelZ := by
  intro p1 p2 p3 dA dB k0 k1 k2 cA cB h
  obtain ⟨r, dA', dB', e1, e2, e3⟩ := s_draw p1 p2 p3 dA dB k0 k1 k2 cA cB h.1
  exact ⟨r, dA', dB', e1, e2, e3, h.2.fs (Fs.of (fr_PB_draw p1 p2 p3 dA cA.2.2 e1) (by decide) (by decide))⟩
theorem z_bench : Sim_bench RelZ := by
  intro p1 dA dB k0 cA cB h
  obtain ⟨r, dA', dB', e1, e2, e3⟩ := s_bench p1 dA dB k0 cA cB h.1
  exact ⟨r, dA', dB', e1, e2, e3, h.2.fs (Fs.of (fr_PB_bench p1 dA cA.2.2 e1) (by decide) (by decide))⟩
theorem z_miles : Sim_miles RelZ := by
  intro p1 p2 p3 dA dB k0 k1 k2 cA cB h
  obtain ⟨r, dA', dB', e1, e2, e3⟩ := s_miles p1 p2 p3 dA dB k0 k1 k2 cA cB h.1
  exact ⟨r, dA', dB', e1, e2, e3, h.2.fs (Fs.of (fr_PB_miles p1 p2 p3 dA cA.2.2 e1) (by decide) (by decide))⟩
theorem z_coaches : Sim_coaches RelZ := by
  intro p1 p2 p3 dA dB k0 k1 k2 cA cB h
  obtain ⟨r, dA', dB', e1, e2, e3⟩ := s_coaches p1 p2 p3 dA dB k0 k1 k2 cA cB h.1
  exact ⟨r, dA', dB', e1, e2, e3, h.2.fs (Fs.of (fr_PB_coaches p1 p2 p3 dA cA.2.2 e1) (by decide) (by decide))⟩
theorem z_coachMany : Sim_coachMany RelZ := by
  intro dA dB cA cB h
  obtain ⟨r, dA', dB', e1, e2, e3⟩ := s_coachMany dA dB cA cB h.1
  exact ⟨r, dA', dB', e1, e2, e3, h.2.fs (Fs.of (fr_PB_coachMany dA cA.2.2 e1) (by decide) (by decide))⟩
theorem z_text : Sim_text RelZ := by
  intro p1 p2 p3 dA dB k1 k2 k3 cA cB h
  have hb : ∀ k, -128 ≤ dA 26 k ∧ dA 26 k ≤ 127 := fun k => by
    have : -128 ≤ dA 26 k ∧ dA 26 k < 128 := cA.1 26 k
    omega
  obtain ⟨gS, gT, gQ, gJ, gP, gR, gH, gF, gO, gV, gG, gA, gB, gN, gC, gM, gL, gk, gX, gg⟩ := id h.1
  have q1 := gA.1
  by_cases c : (0 ≤ p1 ∧ p1 ≤ dA 25 1) ∧ (0 ≤ p2 ∧ p2 ≤ 9999) ∧ (1 ≤ p3 ∧ p3 ≤ 127)
  · obtain ⟨c1, c2, c3⟩ := c
    have c1' : 0 ≤ p1 ∧ p1 ≤ dB 0 32 := by rw [← q1]; exact c1
    have e := pbText_ok (dA := dA) c1 c2 c3
    have l1 := gL.1
    have l4 := gL.2.2.2.1
    by_cases q : dA 30 2 < 5
    · rw [if_pos q] at e
      obtain ⟨n, hn⟩ : ∃ n : Nat, p1 = (n : Int) := ⟨p1.toNat, by omega⟩
      obtain ⟨T, hT⟩ : ∃ T : Nat, dB 0 41 = (T : Int) := ⟨(dB 0 41).toNat, by omega⟩
      obtain ⟨r, dA', dB', e1, e2, e3⟩ := T_text (n := n) (p2 := p2) (p3 := p3) hb h hT (by omega) (by omega) c2 c3
      rw [← hn] at e1 e2
      exact ⟨r, dA', dB', by rw [e]; exact e1, e2, e3⟩
    · rw [if_neg q] at e
      exact ⟨-1, _, _, e, moText_full c1' c2 c3 (by omega), stat_t h 4⟩
  · exact ⟨-1, _, _, pbText_bad c, moText_bad (by rw [← q1]; exact c), stat_t h 1⟩
theorem rel_startZ : RelZ dA0 dB0 := by
  refine ⟨rel_start, fun k j hk => Or.inl ?_⟩
  have e31 : ∀ j, dA0 31 j = -1 := fun j => by
    show up2 (mk_PB_init (fun k j => dzv 0 k j)) GH 0 1 31 j = -1
    exact dzv_s (wd := 0) (k := 31) (j := j) (n := 5) rfl
  have e32 : ∀ j, dA0 32 j = -1 := fun j => by
    show up2 (mk_PB_init (fun k j => dzv 0 k j)) GH 0 1 32 j = -1
    exact dzv_s (wd := 0) (k := 32) (j := j) (n := 100) rfl
  rcases hk with z | z
  · rw [z, e31]; decide
  · rw [z, e32]; decide
theorem rel_sims : Sims RelZ := ⟨z_status, z_tray, z_write, z_read, z_pour, z_far, z_person, z_hold, z_split, z_pay, z_asof, z_fact, z_feed, z_text, z_fault, z_rules, z_struck, z_right, z_why, z_voided, z_names, z_entry, z_join, z_mate, z_joined, z_tally, z_reach, z_who, z_sure, z_offer, z_standing, z_stands, z_poll, z_seated, z_ground, z_against, z_written, z_turns, z_member, z_kin, z_draw, z_bench, z_miles, z_coaches, z_coachMany⟩
