/-! each call gives what the law asks -/
theorem st_mint : Step_mint II := by
  intro t S p1 p2 ht h
  by_cases ho : ok_X11_mint S p1 p2
  · obtain ⟨S1, hS1⟩ : ∃ z : Mem, ((f_X11_mint S p1 p2).2.1, (f_X11_mint S p1 p2).2.2.1, (f_X11_mint S p1 p2).1.toInt64) = z := ⟨_, rfl⟩
    obtain ⟨e1, e2, e3⟩ := tri hS1
    have h1 : St (10000 * (t : Int)) S.1 S1.2.1 := by
      rw [e2, show (f_X11_mint S p1 p2).2.2 = S.2 from g_X11_mint S p1 p2]
      exact h
    rcases mint_ok (II.hu ht) (A := S) (B := S1) h1 p1 p2 with ⟨q, -⟩ | ⟨q, -⟩ | ⟨-, q2, q3⟩
    · exact (nb_mint_1 ho q).elim
    · exact (nb_mint_2 ho q).elim
    · have z := sy_go (t := t) (S1 := S1) e1 e3 (g_X12_mint S1 p1 p2) q3 (by omega)
      refine ⟨3, 67, 0, 0, 0, S1, ⟨by decide, by decide, by decide, by decide⟩, ?_, q2, z.1, z.2.1, z.2.2⟩
      rw [← hS1]
      exact n_L_mint p1 p2 ho
  · rcases mint_ok (II.hu ht) (A := S) (B := S) h p1 p2 with ⟨q1, q2, q3⟩ | ⟨q1, q2, q3⟩ | ⟨q, -⟩
    · have z := sn_go (t := t) q3 (by decide) h
      exact ⟨9, 145, 1, 6, 1, S, ⟨by decide, by decide, by decide, by decide⟩, x_L_mint_1 p1 p2 q1, q2, z.1, z.2.1, z.2.2⟩
    · have z := sn_go (t := t) q3 (by decide) h
      exact ⟨9, 147, 1, 6, (nI 2), S, ⟨by decide, by decide, by decide, by decide⟩, x_L_mint_2 p1 p2 q1, q2, z.1, z.2.1, z.2.2⟩
    · exact absurd q ho
theorem st_forge : Step_forge II := by
  intro t S p1 p2 ht h
  by_cases ho : ok_X11_forge S p1 p2
  · obtain ⟨S1, hS1⟩ : ∃ z : Mem, ((f_X11_forge S p1 p2).2.1, (f_X11_forge S p1 p2).2.2.1, (f_X11_forge S p1 p2).1.toInt64) = z := ⟨_, rfl⟩
    obtain ⟨e1, e2, e3⟩ := tri hS1
    have h1 : St (10000 * (t : Int)) S.1 S1.2.1 := by
      rw [e2, show (f_X11_forge S p1 p2).2.2 = S.2 from g_X11_forge S p1 p2]
      exact h
    rcases forge_ok (II.hu ht) (A := S) (B := S1) h1 p1 p2 with ⟨q, -⟩ | ⟨q, -⟩ | ⟨-, q2, q3⟩
    · exact (nb_forge_1 ho q).elim
    · exact (nb_forge_2 ho q).elim
    · have z := sy_go (t := t) (S1 := S1) e1 e3 (g_X12_forge S1 p1 p2) q3 (by omega)
      refine ⟨3, 65, 0, 0, 0, S1, ⟨by decide, by decide, by decide, by decide⟩, ?_, q2, z.1, z.2.1, z.2.2⟩
      rw [← hS1]
      exact n_L_forge p1 p2 ho
  · rcases forge_ok (II.hu ht) (A := S) (B := S) h p1 p2 with ⟨q1, q2, q3⟩ | ⟨q1, q2, q3⟩ | ⟨q, -⟩
    · have z := sn_go (t := t) q3 (by decide) h
      exact ⟨9, 145, 1, 6, 1, S, ⟨by decide, by decide, by decide, by decide⟩, x_L_forge_1 p1 p2 q1, q2, z.1, z.2.1, z.2.2⟩
    · have z := sn_go (t := t) q3 (by decide) h
      exact ⟨9, 147, 1, 6, (nI 2), S, ⟨by decide, by decide, by decide, by decide⟩, x_L_forge_2 p1 p2 q1, q2, z.1, z.2.1, z.2.2⟩
    · exact absurd q ho
theorem st_hand : Step_hand II := by
  intro t S p1 p2 p3 ht h
  by_cases ho : ok_X11_hand S p1 p2 p3
  · obtain ⟨S1, hS1⟩ : ∃ z : Mem, ((f_X11_hand S p1 p2 p3).2.1, (f_X11_hand S p1 p2 p3).2.2.1, (f_X11_hand S p1 p2 p3).1.toInt64) = z := ⟨_, rfl⟩
    obtain ⟨e1, e2, e3⟩ := tri hS1
    have h1 : St (10000 * (t : Int)) S.1 S1.2.1 := by
      rw [e2, show (f_X11_hand S p1 p2 p3).2.2 = S.2 from g_X11_hand S p1 p2 p3]
      exact h
    rcases hand_ok (II.hu ht) (A := S) (B := S1) h1 p1 p2 p3 with ⟨q, -⟩ | ⟨q, -⟩ | ⟨q, -⟩ | ⟨q, -⟩ | ⟨q, -⟩ | ⟨-, q2, q3⟩
    · exact (nb_hand_1 ho q).elim
    · exact (nb_hand_2 ho q).elim
    · exact (nb_hand_3 ho q).elim
    · exact (nb_hand_4 ho q).elim
    · exact (nb_hand_5 ho q).elim
    · have z := sy_go (t := t) (S1 := S1) e1 e3 (g_X12_hand S1 p1 p2 p3) q3 (by omega)
      refine ⟨3, 68, 0, 0, 0, S1, ⟨by decide, by decide, by decide, by decide⟩, ?_, q2, z.1, z.2.1, z.2.2⟩
      rw [← hS1]
      exact n_L_hand p1 p2 p3 ho
  · rcases hand_ok (II.hu ht) (A := S) (B := S) h p1 p2 p3 with ⟨q1, q2, q3⟩ | ⟨q1, q2, q3⟩ | ⟨q1, q2, q3⟩ | ⟨q1, q2, q3⟩ | ⟨q1, q2, q3⟩ | ⟨q, -⟩
    · have z := sn_go (t := t) q3 (by decide) h
      exact ⟨9, 147, 1, 6, 1, S, ⟨by decide, by decide, by decide, by decide⟩, x_L_hand_1 p1 p2 p3 q1, q2, z.1, z.2.1, z.2.2⟩
    · have z := sn_go (t := t) q3 (by decide) h
      exact ⟨9, 147, 1, 6, 1, S, ⟨by decide, by decide, by decide, by decide⟩, x_L_hand_2 p1 p2 p3 q1, q2, z.1, z.2.1, z.2.2⟩
    · have z := sn_go (t := t) q3 (by decide) h
      exact ⟨8, 127, 1, 6, (nI 2), S, ⟨by decide, by decide, by decide, by decide⟩, x_L_hand_3 p1 p2 p3 q1, q2, z.1, z.2.1, z.2.2⟩
    · have z := sn_go (t := t) q3 (by decide) h
      exact ⟨9, 149, 1, 6, (nI 2), S, ⟨by decide, by decide, by decide, by decide⟩, x_L_hand_4 p1 p2 p3 q1, q2, z.1, z.2.1, z.2.2⟩
    · have z := sn_go (t := t) q3 (by decide) h
      exact ⟨8, 127, 1, 6, (nI 3), S, ⟨by decide, by decide, by decide, by decide⟩, x_L_hand_5 p1 p2 p3 q1, q2, z.1, z.2.1, z.2.2⟩
    · exact absurd q ho
theorem st_open : Step_open II := by
  intro t S p1 p2 ht h
  by_cases ho : ok_X11_open S p1 p2
  · obtain ⟨S1, hS1⟩ : ∃ z : Mem, ((f_X11_open S p1 p2).2.1, (f_X11_open S p1 p2).2.2.1, (f_X11_open S p1 p2).1.toInt64) = z := ⟨_, rfl⟩
    obtain ⟨e1, e2, e3⟩ := tri hS1
    have h1 : St (10000 * (t : Int)) S.1 S1.2.1 := by
      rw [e2, show (f_X11_open S p1 p2).2.2 = S.2 from g_X11_open S p1 p2]
      exact h
    rcases open_op (A := S) (B := S1) h1 p1 p2 with ⟨q, -⟩ | ⟨q, -⟩ | ⟨q, -⟩ | ⟨-, q2, q3⟩
    · exact (nb_open_1 ho q).elim
    · exact (nb_open_2 ho q).elim
    · exact (nb_open_3 ho q).elim
    · have z := sy_go (t := t) (S1 := S1) e1 e3 (g_X12_open S1 p1 p2) q3 (by omega)
      refine ⟨3, 68, 0, 0, 0, S1, ⟨by decide, by decide, by decide, by decide⟩, ?_, q2, z.1, z.2.1, z.2.2⟩
      rw [← hS1]
      exact n_L_open p1 p2 ho
  · rcases open_op (A := S) (B := S) h p1 p2 with ⟨q1, q2, q3⟩ | ⟨q1, q2, q3⟩ | ⟨q1, q2, q3⟩ | ⟨q, -⟩
    · have z := sn_go (t := t) q3 (by decide) h
      exact ⟨9, 145, 1, 6, 1, S, ⟨by decide, by decide, by decide, by decide⟩, x_L_open_1 p1 p2 q1, q2, z.1, z.2.1, z.2.2⟩
    · have z := sn_go (t := t) q3 (by decide) h
      exact ⟨9, 145, 1, 6, 1, S, ⟨by decide, by decide, by decide, by decide⟩, x_L_open_2 p1 p2 q1, q2, z.1, z.2.1, z.2.2⟩
    · have z := sn_go (t := t) q3 (by decide) h
      exact ⟨8, 125, 1, 6, (nI 2), S, ⟨by decide, by decide, by decide, by decide⟩, x_L_open_3 p1 p2 q1, q2, z.1, z.2.1, z.2.2⟩
    · exact absurd q ho
theorem st_close : Step_close II := by
  intro t S p1 ht h
  by_cases ho : ok_X11_close S p1
  · obtain ⟨S1, hS1⟩ : ∃ z : Mem, ((f_X11_close S p1).2.1, (f_X11_close S p1).2.2.1, (f_X11_close S p1).1.toInt64) = z := ⟨_, rfl⟩
    obtain ⟨e1, e2, e3⟩ := tri hS1
    have h1 : St (10000 * (t : Int)) S.1 S1.2.1 := by
      rw [e2, show (f_X11_close S p1).2.2 = S.2 from g_X11_close S p1]
      exact h
    rcases close_op (A := S) (B := S1) h1 p1 with ⟨q, -⟩ | ⟨q, -⟩ | ⟨-, q2, q3⟩
    · exact (nb_close_1 ho q).elim
    · exact (nb_close_2 ho q).elim
    · have z := sy_go (t := t) (S1 := S1) e1 e3 (g_X12_close S1 p1) q3 (by omega)
      refine ⟨3, 68, 0, 0, 0, S1, ⟨by decide, by decide, by decide, by decide⟩, ?_, q2, z.1, z.2.1, z.2.2⟩
      rw [← hS1]
      exact n_L_close p1 ho
  · rcases close_op (A := S) (B := S) h p1 with ⟨q1, q2, q3⟩ | ⟨q1, q2, q3⟩ | ⟨q, -⟩
    · have z := sn_go (t := t) q3 (by decide) h
      exact ⟨9, 145, 1, 6, 1, S, ⟨by decide, by decide, by decide, by decide⟩, x_L_close_1 p1 q1, q2, z.1, z.2.1, z.2.2⟩
    · have z := sn_go (t := t) q3 (by decide) h
      exact ⟨8, 125, 1, 6, (nI 2), S, ⟨by decide, by decide, by decide, by decide⟩, x_L_close_2 p1 q1, q2, z.1, z.2.1, z.2.2⟩
    · exact absurd q ho
theorem st_bring : Step_bring II := by
  intro t S p1 p2 ht h
  by_cases ho : ok_X11_bring S p1 p2
  · obtain ⟨S1, hS1⟩ : ∃ z : Mem, ((f_X11_bring S p1 p2).2.1, (f_X11_bring S p1 p2).2.2.1, (f_X11_bring S p1 p2).1.toInt64) = z := ⟨_, rfl⟩
    obtain ⟨e1, e2, e3⟩ := tri hS1
    have h1 : St (10000 * (t : Int)) S.1 S1.2.1 := by
      rw [e2, show (f_X11_bring S p1 p2).2.2 = S.2 from g_X11_bring S p1 p2]
      exact h
    rcases bring_ok (II.hu ht) (A := S) (B := S1) h1 p1 p2 with ⟨q, -⟩ | ⟨q, -⟩ | ⟨q, -⟩ | ⟨-, q2, q3⟩
    · exact (nb_bring_1 ho q).elim
    · exact (nb_bring_2 ho q).elim
    · exact (nb_bring_3 ho q).elim
    · have z := sy_go (t := t) (S1 := S1) e1 e3 (g_X12_bring S1 p1 p2) q3 (by omega)
      refine ⟨3, 70, 0, 0, 0, S1, ⟨by decide, by decide, by decide, by decide⟩, ?_, q2, z.1, z.2.1, z.2.2⟩
      rw [← hS1]
      exact n_L_bring p1 p2 ho
  · rcases bring_ok (II.hu ht) (A := S) (B := S) h p1 p2 with ⟨q1, q2, q3⟩ | ⟨q1, q2, q3⟩ | ⟨q1, q2, q3⟩ | ⟨q, -⟩
    · have z := sn_go (t := t) q3 (by decide) h
      exact ⟨9, 147, 1, 6, 1, S, ⟨by decide, by decide, by decide, by decide⟩, x_L_bring_1 p1 p2 q1, q2, z.1, z.2.1, z.2.2⟩
    · have z := sn_go (t := t) q3 (by decide) h
      exact ⟨9, 149, 1, 6, (nI 2), S, ⟨by decide, by decide, by decide, by decide⟩, x_L_bring_2 p1 p2 q1, q2, z.1, z.2.1, z.2.2⟩
    · have z := sn_go (t := t) q3 (by decide) h
      exact ⟨8, 127, 1, 6, (nI 3), S, ⟨by decide, by decide, by decide, by decide⟩, x_L_bring_3 p1 p2 q1, q2, z.1, z.2.1, z.2.2⟩
    · exact absurd q ho
theorem st_draw : Step_draw II := by
  intro t S p1 p2 ht h
  by_cases ho : ok_X11_draw S p1 p2
  · obtain ⟨S1, hS1⟩ : ∃ z : Mem, ((f_X11_draw S p1 p2).2.1, (f_X11_draw S p1 p2).2.2.1, (f_X11_draw S p1 p2).1.toInt64) = z := ⟨_, rfl⟩
    obtain ⟨e1, e2, e3⟩ := tri hS1
    have h1 : St (10000 * (t : Int)) S.1 S1.2.1 := by
      rw [e2, show (f_X11_draw S p1 p2).2.2 = S.2 from g_X11_draw S p1 p2]
      exact h
    rcases draw_op (II.hu ht) (A := S) (B := S1) h1 p1 p2 with ⟨q, -⟩ | ⟨q, -⟩ | ⟨q, -⟩ | ⟨-, q2, q3⟩
    · exact (nb_draw_1 ho q).elim
    · exact (nb_draw_2 ho q).elim
    · exact (nb_draw_3 ho q).elim
    · have z := sy_go (t := t) (S1 := S1) e1 e3 (g_X12_draw S1 p1 p2) q3 (by omega)
      refine ⟨5, 128, 0, 0, 0, S1, ⟨by decide, by decide, by decide, by decide⟩, ?_, q2, z.1, z.2.1, z.2.2⟩
      rw [← hS1]
      exact n_L_draw p1 p2 ho
  · rcases draw_op (II.hu ht) (A := S) (B := S) h p1 p2 with ⟨q1, q2, q3⟩ | ⟨q1, q2, q3⟩ | ⟨q1, q2, q3⟩ | ⟨q, -⟩
    · have z := sn_go (t := t) q3 (by decide) h
      exact ⟨9, 147, 1, 6, 1, S, ⟨by decide, by decide, by decide, by decide⟩, x_L_draw_1 p1 p2 q1, q2, z.1, z.2.1, z.2.2⟩
    · have z := sn_go (t := t) q3 (by decide) h
      exact ⟨9, 149, 1, 6, (nI 2), S, ⟨by decide, by decide, by decide, by decide⟩, x_L_draw_2 p1 p2 q1, q2, z.1, z.2.1, z.2.2⟩
    · have z := sn_go (t := t) q3 (by decide) h
      exact ⟨8, 127, 1, 6, (nI 3), S, ⟨by decide, by decide, by decide, by decide⟩, x_L_draw_3 p1 p2 q1, q2, z.1, z.2.1, z.2.2⟩
    · exact absurd q ho
theorem st_pay : Step_pay II := by
  intro t S p1 p2 p3 ht h
  by_cases ho : ok_X11_pay S p1 p2 p3
  · obtain ⟨S1, hS1⟩ : ∃ z : Mem, ((f_X11_pay S p1 p2 p3).2.1, (f_X11_pay S p1 p2 p3).2.2.1, (f_X11_pay S p1 p2 p3).1.toInt64) = z := ⟨_, rfl⟩
    obtain ⟨e1, e2, e3⟩ := tri hS1
    have h1 : St (10000 * (t : Int)) S.1 S1.2.1 := by
      rw [e2, show (f_X11_pay S p1 p2 p3).2.2 = S.2 from g_X11_pay S p1 p2 p3]
      exact h
    rcases pay_op (II.hu ht) (A := S) (B := S1) h1 p1 p2 p3 with ⟨q, -⟩ | ⟨q, -⟩ | ⟨q, -⟩ | ⟨q, -⟩ | ⟨q, -⟩ | ⟨-, q2, q3⟩
    · exact (nb_pay_1 ho q).elim
    · exact (nb_pay_2 ho q).elim
    · exact (nb_pay_3 ho q).elim
    · exact (nb_pay_4 ho q).elim
    · exact (nb_pay_5 ho q).elim
    · have z := sy_go (t := t) (S1 := S1) e1 e3 (g_X12_pay S1 p1 p2 p3) q3 (by omega)
      refine ⟨5, 119, 0, 0, 0, S1, ⟨by decide, by decide, by decide, by decide⟩, ?_, q2, z.1, z.2.1, z.2.2⟩
      rw [← hS1]
      exact n_L_pay p1 p2 p3 ho
  · rcases pay_op (II.hu ht) (A := S) (B := S) h p1 p2 p3 with ⟨q1, q2, q3⟩ | ⟨q1, q2, q3⟩ | ⟨q1, q2, q3⟩ | ⟨q1, q2, q3⟩ | ⟨q1, q2, q3⟩ | ⟨q, -⟩
    · have z := sn_go (t := t) q3 (by decide) h
      exact ⟨9, 145, 1, 6, 1, S, ⟨by decide, by decide, by decide, by decide⟩, x_L_pay_1 p1 p2 p3 q1, q2, z.1, z.2.1, z.2.2⟩
    · have z := sn_go (t := t) q3 (by decide) h
      exact ⟨9, 145, 1, 6, 1, S, ⟨by decide, by decide, by decide, by decide⟩, x_L_pay_2 p1 p2 p3 q1, q2, z.1, z.2.1, z.2.2⟩
    · have z := sn_go (t := t) q3 (by decide) h
      exact ⟨8, 125, 1, 6, (nI 2), S, ⟨by decide, by decide, by decide, by decide⟩, x_L_pay_3 p1 p2 p3 q1, q2, z.1, z.2.1, z.2.2⟩
    · have z := sn_go (t := t) q3 (by decide) h
      exact ⟨9, 147, 1, 6, (nI 2), S, ⟨by decide, by decide, by decide, by decide⟩, x_L_pay_4 p1 p2 p3 q1, q2, z.1, z.2.1, z.2.2⟩
    · have z := sn_go (t := t) q3 (by decide) h
      exact ⟨8, 125, 1, 6, (nI 3), S, ⟨by decide, by decide, by decide, by decide⟩, x_L_pay_5 p1 p2 p3 q1, q2, z.1, z.2.1, z.2.2⟩
    · exact absurd q ho
theorem st_clear : Step_clear II := by
  intro t S ht h
  obtain ⟨S1, hS1⟩ : ∃ z : Mem, (f_X11_clear S).2 = z := ⟨_, rfl⟩
  rw [hS1]
  have h1 : St (10000 * (t : Int)) S.1 S1.2.1 := by
    rw [← hS1, show (f_X11_clear S).2.2 = S.2 from g_X11_clear S]
    exact h
  obtain ⟨q1, q2, q3⟩ := clear_op (A := S) (B := S1) (II.hu ht) h1
  obtain ⟨a, b, c⟩ := q3
  refine ⟨q1, q2, b.symm, ?_⟩
  show St _ (f_X12_clear S1).2.1 (f_X12_clear S1).2.2.1
  rw [hS1] at c
  rw [(g_X12_clear S1).1]
  exact c.mono (by omega)
theorem st_limit : Step_limit II := by
  intro t S p1 p2 ht h
  by_cases ho : ok_X11_limit S p1 p2
  · obtain ⟨S1, hS1⟩ : ∃ z : Mem, ((f_X11_limit S p1 p2).2.1, (f_X11_limit S p1 p2).2.2.1, (f_X11_limit S p1 p2).1.toInt64) = z := ⟨_, rfl⟩
    obtain ⟨e1, e2, e3⟩ := tri hS1
    have h1 : St (10000 * (t : Int)) S.1 S1.2.1 := by
      rw [e2, show (f_X11_limit S p1 p2).2.2 = S.2 from g_X11_limit S p1 p2]
      exact h
    rcases limit_ok (A := S) (B := S1) h1 p1 p2 with ⟨q, -⟩ | ⟨q, -⟩ | ⟨-, q2, q3⟩
    · exact (nb_limit_1 ho q).elim
    · exact (nb_limit_2 ho q).elim
    · have z := sy_go (t := t) (S1 := S1) e1 e3 (g_X12_limit S1 p1 p2) q3 (by omega)
      refine ⟨3, 66, 0, 0, 0, S1, ⟨by decide, by decide, by decide, by decide⟩, ?_, q2, z.1, z.2.1, z.2.2⟩
      rw [← hS1]
      exact n_L_limit p1 p2 ho
  · rcases limit_ok (A := S) (B := S) h p1 p2 with ⟨q1, q2, q3⟩ | ⟨q1, q2, q3⟩ | ⟨q, -⟩
    · have z := sn_go (t := t) q3 (by decide) h
      exact ⟨9, 146, 1, 6, 1, S, ⟨by decide, by decide, by decide, by decide⟩, x_L_limit_1 p1 p2 q1, q2, z.1, z.2.1, z.2.2⟩
    · have z := sn_go (t := t) q3 (by decide) h
      exact ⟨9, 148, 1, 6, (nI 2), S, ⟨by decide, by decide, by decide, by decide⟩, x_L_limit_2 p1 p2 q1, q2, z.1, z.2.1, z.2.2⟩
    · exact absurd q ho
theorem st_endow : Step_endow II := by
  intro t S p1 p2 ht h
  by_cases ho : ok_X11_endow S p1 p2
  · obtain ⟨S1, hS1⟩ : ∃ z : Mem, ((f_X11_endow S p1 p2).2.1, (f_X11_endow S p1 p2).2.2.1, (f_X11_endow S p1 p2).1.toInt64) = z := ⟨_, rfl⟩
    obtain ⟨e1, e2, e3⟩ := tri hS1
    have h1 : St (10000 * (t : Int)) S.1 S1.2.1 := by
      rw [e2, show (f_X11_endow S p1 p2).2.2 = S.2 from g_X11_endow S p1 p2]
      exact h
    rcases endow_ok (II.hu ht) (A := S) (B := S1) h1 p1 p2 with ⟨q, -⟩ | ⟨q, -⟩ | ⟨q, -⟩ | ⟨-, q2, q3⟩
    · exact (nb_endow_1 ho q).elim
    · exact (nb_endow_2 ho q).elim
    · exact (nb_endow_3 ho q).elim
    · have z := sy_go (t := t) (S1 := S1) e1 e3 (g_X12_endow S1 p1 p2) q3 (by omega)
      refine ⟨3, 67, 0, 0, 0, S1, ⟨by decide, by decide, by decide, by decide⟩, ?_, q2, z.1, z.2.1, z.2.2⟩
      rw [← hS1]
      exact n_L_endow p1 p2 ho
  · rcases endow_ok (II.hu ht) (A := S) (B := S) h p1 p2 with ⟨q1, q2, q3⟩ | ⟨q1, q2, q3⟩ | ⟨q1, q2, q3⟩ | ⟨q, -⟩
    · have z := sn_go (t := t) q3 (by decide) h
      exact ⟨9, 145, 1, 6, 1, S, ⟨by decide, by decide, by decide, by decide⟩, x_L_endow_1 p1 p2 q1, q2, z.1, z.2.1, z.2.2⟩
    · have z := sn_go (t := t) q3 (by decide) h
      exact ⟨9, 147, 1, 6, (nI 2), S, ⟨by decide, by decide, by decide, by decide⟩, x_L_endow_2 p1 p2 q1, q2, z.1, z.2.1, z.2.2⟩
    · have z := sn_go (t := t) q3 (by decide) h
      exact ⟨8, 125, 1, 6, (nI 3), S, ⟨by decide, by decide, by decide, by decide⟩, x_L_endow_3 p1 p2 q1, q2, z.1, z.2.1, z.2.2⟩
    · exact absurd q ho
theorem st_lend : Step_lend II := by
  intro t S p1 p2 p3 p4 ht h
  by_cases ho : ok_X11_lend S p1 p2 p3 p4
  · obtain ⟨S1, hS1⟩ : ∃ z : Mem, ((f_X11_lend S p1 p2 p3 p4).2.1, (f_X11_lend S p1 p2 p3 p4).2.2.1, (f_X11_lend S p1 p2 p3 p4).1.toInt64) = z := ⟨_, rfl⟩
    obtain ⟨e1, e2, e3⟩ := tri hS1
    have h1 : St (10000 * (t : Int)) S.1 S1.2.1 := by
      rw [e2, show (f_X11_lend S p1 p2 p3 p4).2.2 = S.2 from g_X11_lend S p1 p2 p3 p4]
      exact h
    rcases lend_ok (II.hu ht) (A := S) (B := S1) h1 p1 p2 p3 p4 with ⟨q, -⟩ | ⟨q, -⟩ | ⟨q, -⟩ | ⟨q, -⟩ | ⟨q, -⟩ | ⟨q, -⟩ | ⟨-, q2, q3⟩
    · exact (nb_lend_1 ho q).elim
    · exact (nb_lend_2 ho q).elim
    · exact (nb_lend_3 ho q).elim
    · exact (nb_lend_4 ho q).elim
    · exact (nb_lend_5 ho q).elim
    · exact (nb_lend_6 ho q).elim
    · have z := sy_go (t := t) (S1 := S1) e1 e3 (g_X12_lend S1 p1 p2 p3 p4) q3 (by omega)
      refine ⟨4, 94, 0, 0, 0, S1, ⟨by decide, by decide, by decide, by decide⟩, ?_, q2, z.1, z.2.1, z.2.2⟩
      rw [← hS1]
      exact n_L_lend p1 p2 p3 p4 ho
  · rcases lend_ok (II.hu ht) (A := S) (B := S) h p1 p2 p3 p4 with ⟨q1, q2, q3⟩ | ⟨q1, q2, q3⟩ | ⟨q1, q2, q3⟩ | ⟨q1, q2, q3⟩ | ⟨q1, q2, q3⟩ | ⟨q1, q2, q3⟩ | ⟨q, -⟩
    · have z := sn_go (t := t) q3 (by decide) h
      exact ⟨9, 147, 1, 6, 1, S, ⟨by decide, by decide, by decide, by decide⟩, x_L_lend_1 p1 p2 p3 p4 q1, q2, z.1, z.2.1, z.2.2⟩
    · have z := sn_go (t := t) q3 (by decide) h
      exact ⟨9, 147, 1, 6, 1, S, ⟨by decide, by decide, by decide, by decide⟩, x_L_lend_2 p1 p2 p3 p4 q1, q2, z.1, z.2.1, z.2.2⟩
    · have z := sn_go (t := t) q3 (by decide) h
      exact ⟨9, 149, 1, 6, (nI 2), S, ⟨by decide, by decide, by decide, by decide⟩, x_L_lend_3 p1 p2 p3 p4 q1, q2, z.1, z.2.1, z.2.2⟩
    · have z := sn_go (t := t) q3 (by decide) h
      exact ⟨9, 149, 1, 6, (nI 2), S, ⟨by decide, by decide, by decide, by decide⟩, x_L_lend_4 p1 p2 p3 p4 q1, q2, z.1, z.2.1, z.2.2⟩
    · have z := sn_go (t := t) q3 (by decide) h
      exact ⟨8, 127, 1, 6, (nI 3), S, ⟨by decide, by decide, by decide, by decide⟩, x_L_lend_5 p1 p2 p3 p4 q1, q2, z.1, z.2.1, z.2.2⟩
    · have z := sn_go (t := t) q3 (by decide) h
      exact ⟨8, 127, 1, 6, (nI 3), S, ⟨by decide, by decide, by decide, by decide⟩, x_L_lend_6 p1 p2 p3 p4 q1, q2, z.1, z.2.1, z.2.2⟩
    · exact absurd q ho
theorem st_payBack : Step_payBack II := by
  intro t S p1 p2 ht h
  by_cases ho : ok_X11_payBack S p1 p2
  · obtain ⟨S1, hS1⟩ : ∃ z : Mem, ((f_X11_payBack S p1 p2).2.1, (f_X11_payBack S p1 p2).2.2.1, (f_X11_payBack S p1 p2).1.toInt64) = z := ⟨_, rfl⟩
    obtain ⟨e1, e2, e3⟩ := tri hS1
    have h1 : St (10000 * (t : Int)) S.1 S1.2.1 := by
      rw [e2, show (f_X11_payBack S p1 p2).2.2 = S.2 from g_X11_payBack S p1 p2]
      exact h
    rcases payBack_ok (II.hu ht) (A := S) (B := S1) h1 p1 p2 with ⟨q, -⟩ | ⟨q, -⟩ | ⟨q, -⟩ | ⟨-, q2, q3⟩
    · exact (nb_payBack_1 ho q).elim
    · exact (nb_payBack_2 ho q).elim
    · exact (nb_payBack_3 ho q).elim
    · have z := sy_go (t := t) (S1 := S1) e1 e3 (g_X12_payBack S1 p1 p2) q3 (by omega)
      refine ⟨4, 91, 0, 0, 0, S1, ⟨by decide, by decide, by decide, by decide⟩, ?_, q2, z.1, z.2.1, z.2.2⟩
      rw [← hS1]
      exact n_L_payBack p1 p2 ho
  · rcases payBack_ok (II.hu ht) (A := S) (B := S) h p1 p2 with ⟨q1, q2, q3⟩ | ⟨q1, q2, q3⟩ | ⟨q1, q2, q3⟩ | ⟨q, -⟩
    · have z := sn_go (t := t) q3 (by decide) h
      exact ⟨9, 146, 1, 6, 1, S, ⟨by decide, by decide, by decide, by decide⟩, x_L_payBack_1 p1 p2 q1, q2, z.1, z.2.1, z.2.2⟩
    · have z := sn_go (t := t) q3 (by decide) h
      exact ⟨9, 147, 1, 6, (nI 2), S, ⟨by decide, by decide, by decide, by decide⟩, x_L_payBack_2 p1 p2 q1, q2, z.1, z.2.1, z.2.2⟩
    · have z := sn_go (t := t) q3 (by decide) h
      exact ⟨8, 125, 1, 6, (nI 3), S, ⟨by decide, by decide, by decide, by decide⟩, x_L_payBack_3 p1 p2 q1, q2, z.1, z.2.1, z.2.2⟩
    · exact absurd q ho
theorem st_window : Step_window II := by
  intro t S p1 p2 ht h
  by_cases ho : ok_X11_window S p1 p2
  · obtain ⟨S1, hS1⟩ : ∃ z : Mem, ((f_X11_window S p1 p2).2.1, (f_X11_window S p1 p2).2.2.1, (f_X11_window S p1 p2).1.toInt64) = z := ⟨_, rfl⟩
    obtain ⟨e1, e2, e3⟩ := tri hS1
    have h1 : St (10000 * (t : Int)) S.1 S1.2.1 := by
      rw [e2, show (f_X11_window S p1 p2).2.2 = S.2 from g_X11_window S p1 p2]
      exact h
    rcases window_ok (II.hu ht) (A := S) (B := S1) h1 p1 p2 with ⟨q, -⟩ | ⟨q, -⟩ | ⟨q, -⟩ | ⟨-, q2, q3⟩
    · exact (nb_window_1 ho q).elim
    · exact (nb_window_2 ho q).elim
    · exact (nb_window_3 ho q).elim
    · have z := sy_go (t := t) (S1 := S1) e1 e3 (g_X12_window S1 p1 p2) q3 (by omega)
      refine ⟨4, 90, 0, 0, 0, S1, ⟨by decide, by decide, by decide, by decide⟩, ?_, q2, z.1, z.2.1, z.2.2⟩
      rw [← hS1]
      exact n_L_window p1 p2 ho
  · rcases window_ok (II.hu ht) (A := S) (B := S) h p1 p2 with ⟨q1, q2, q3⟩ | ⟨q1, q2, q3⟩ | ⟨q1, q2, q3⟩ | ⟨q, -⟩
    · have z := sn_go (t := t) q3 (by decide) h
      exact ⟨9, 145, 1, 6, 1, S, ⟨by decide, by decide, by decide, by decide⟩, x_L_window_1 p1 p2 q1, q2, z.1, z.2.1, z.2.2⟩
    · have z := sn_go (t := t) q3 (by decide) h
      exact ⟨9, 147, 1, 6, (nI 2), S, ⟨by decide, by decide, by decide, by decide⟩, x_L_window_2 p1 p2 q1, q2, z.1, z.2.1, z.2.2⟩
    · have z := sn_go (t := t) q3 (by decide) h
      exact ⟨8, 125, 1, 6, (nI 3), S, ⟨by decide, by decide, by decide, by decide⟩, x_L_window_3 p1 p2 q1, q2, z.1, z.2.1, z.2.2⟩
    · exact absurd q ho
theorem st_windowBack : Step_windowBack II := by
  intro t S p1 p2 ht h
  by_cases ho : ok_X11_windowBack S p1 p2
  · obtain ⟨S1, hS1⟩ : ∃ z : Mem, ((f_X11_windowBack S p1 p2).2.1, (f_X11_windowBack S p1 p2).2.2.1, (f_X11_windowBack S p1 p2).1.toInt64) = z := ⟨_, rfl⟩
    obtain ⟨e1, e2, e3⟩ := tri hS1
    have h1 : St (10000 * (t : Int)) S.1 S1.2.1 := by
      rw [e2, show (f_X11_windowBack S p1 p2).2.2 = S.2 from g_X11_windowBack S p1 p2]
      exact h
    rcases windowBack_ok (II.hu ht) (A := S) (B := S1) h1 p1 p2 with ⟨q, -⟩ | ⟨q, -⟩ | ⟨q, -⟩ | ⟨-, q2, q3⟩
    · exact (nb_windowBack_1 ho q).elim
    · exact (nb_windowBack_2 ho q).elim
    · exact (nb_windowBack_3 ho q).elim
    · have z := sy_go (t := t) (S1 := S1) e1 e3 (g_X12_windowBack S1 p1 p2) q3 (by omega)
      refine ⟨3, 65, 0, 0, 0, S1, ⟨by decide, by decide, by decide, by decide⟩, ?_, q2, z.1, z.2.1, z.2.2⟩
      rw [← hS1]
      exact n_L_windowBack p1 p2 ho
  · rcases windowBack_ok (II.hu ht) (A := S) (B := S) h p1 p2 with ⟨q1, q2, q3⟩ | ⟨q1, q2, q3⟩ | ⟨q1, q2, q3⟩ | ⟨q, -⟩
    · have z := sn_go (t := t) q3 (by decide) h
      exact ⟨9, 145, 1, 6, 1, S, ⟨by decide, by decide, by decide, by decide⟩, x_L_windowBack_1 p1 p2 q1, q2, z.1, z.2.1, z.2.2⟩
    · have z := sn_go (t := t) q3 (by decide) h
      exact ⟨9, 147, 1, 6, (nI 2), S, ⟨by decide, by decide, by decide, by decide⟩, x_L_windowBack_2 p1 p2 q1, q2, z.1, z.2.1, z.2.2⟩
    · have z := sn_go (t := t) q3 (by decide) h
      exact ⟨8, 125, 1, 6, (nI 3), S, ⟨by decide, by decide, by decide, by decide⟩, x_L_windowBack_3 p1 p2 q1, q2, z.1, z.2.1, z.2.2⟩
    · exact absurd q ho
theorem st_rules : Step_rules II := by
  intro t S p1 p2 p3 ht h
  by_cases ho : ok_X11_rules S p1 p2 p3
  · obtain ⟨S1, hS1⟩ : ∃ z : Mem, ((f_X11_rules S p1 p2 p3).2.1, (f_X11_rules S p1 p2 p3).2.2.1, (f_X11_rules S p1 p2 p3).1.toInt64) = z := ⟨_, rfl⟩
    obtain ⟨e1, e2, e3⟩ := tri hS1
    have h1 : St (10000 * (t : Int)) S.1 S1.2.1 := by
      rw [e2, show (f_X11_rules S p1 p2 p3).2.2 = S.2 from g_X11_rules S p1 p2 p3]
      exact h
    rcases rules_ok (A := S) (B := S1) h1 p1 p2 p3 with ⟨q, -⟩ | ⟨q, -⟩ | ⟨q, -⟩ | ⟨-, q3⟩
    · exact (nb_rules_1 ho q).elim
    · exact (nb_rules_2 ho q).elim
    · exact (nb_rules_3 ho q).elim
    · have z := sy_go (t := t) (S1 := S1) e1 e3 (g_X12_rules S1 p1 p2 p3) q3 (by omega)
      refine ⟨3, 67, 0, 0, 0, S1, ⟨by decide, by decide, by decide, by decide⟩, ?_, z.1, z.2.1, z.2.2⟩
      rw [← hS1]
      exact n_L_rules p1 p2 p3 ho
  · rcases rules_ok (A := S) (B := S) h p1 p2 p3 with ⟨q1, q3⟩ | ⟨q1, q3⟩ | ⟨q1, q3⟩ | ⟨q, -⟩
    · have z := sn_go (t := t) q3 (by decide) h
      exact ⟨9, 149, 1, 6, 1, S, ⟨by decide, by decide, by decide, by decide⟩, x_L_rules_1 p1 p2 p3 q1, z.1, z.2.1, z.2.2⟩
    · have z := sn_go (t := t) q3 (by decide) h
      exact ⟨9, 149, 1, 6, 1, S, ⟨by decide, by decide, by decide, by decide⟩, x_L_rules_2 p1 p2 p3 q1, z.1, z.2.1, z.2.2⟩
    · have z := sn_go (t := t) q3 (by decide) h
      exact ⟨9, 149, 1, 6, 1, S, ⟨by decide, by decide, by decide, by decide⟩, x_L_rules_3 p1 p2 p3 q1, z.1, z.2.1, z.2.2⟩
    · exact absurd q ho
theorem st_buyBonds : Step_buyBonds II := by
  intro t S p1 p2 ht h
  by_cases ho : ok_X11_buyBonds S p1 p2
  · obtain ⟨S1, hS1⟩ : ∃ z : Mem, ((f_X11_buyBonds S p1 p2).2.1, (f_X11_buyBonds S p1 p2).2.2.1, (f_X11_buyBonds S p1 p2).1.toInt64) = z := ⟨_, rfl⟩
    obtain ⟨e1, e2, e3⟩ := tri hS1
    have h1 : St (10000 * (t : Int)) S.1 S1.2.1 := by
      rw [e2, show (f_X11_buyBonds S p1 p2).2.2 = S.2 from g_X11_buyBonds S p1 p2]
      exact h
    rcases buyBonds_ok (II.hu ht) (A := S) (B := S1) h1 p1 p2 with ⟨q, -⟩ | ⟨q, -⟩ | ⟨q, -⟩ | ⟨-, q2, q3⟩
    · exact (nb_buyBonds_1 ho q).elim
    · exact (nb_buyBonds_2 ho q).elim
    · exact (nb_buyBonds_3 ho q).elim
    · have z := sy_go (t := t) (S1 := S1) e1 e3 (g_X12_buyBonds S1 p1 p2) q3 (by omega)
      refine ⟨3, 71, 0, 0, 0, S1, ⟨by decide, by decide, by decide, by decide⟩, ?_, q2, z.1, z.2.1, z.2.2⟩
      rw [← hS1]
      exact n_L_buyBonds p1 p2 ho
  · rcases buyBonds_ok (II.hu ht) (A := S) (B := S) h p1 p2 with ⟨q1, q2, q3⟩ | ⟨q1, q2, q3⟩ | ⟨q1, q2, q3⟩ | ⟨q, -⟩
    · have z := sn_go (t := t) q3 (by decide) h
      exact ⟨9, 144, 1, 6, 1, S, ⟨by decide, by decide, by decide, by decide⟩, x_L_buyBonds_1 p1 p2 q1, q2, z.1, z.2.1, z.2.2⟩
    · have z := sn_go (t := t) q3 (by decide) h
      exact ⟨9, 146, 1, 6, (nI 2), S, ⟨by decide, by decide, by decide, by decide⟩, x_L_buyBonds_2 p1 p2 q1, q2, z.1, z.2.1, z.2.2⟩
    · have z := sn_go (t := t) q3 (by decide) h
      exact ⟨8, 124, 1, 6, (nI 3), S, ⟨by decide, by decide, by decide, by decide⟩, x_L_buyBonds_3 p1 p2 q1, q2, z.1, z.2.1, z.2.2⟩
    · exact absurd q ho
theorem st_bid : Step_bid II := by
  intro t S p1 p2 p3 ht h
  by_cases ho : ok_X11_bid S p1 p2 p3
  · obtain ⟨S1, hS1⟩ : ∃ z : Mem, ((f_X11_bid S p1 p2 p3).2.1, (f_X11_bid S p1 p2 p3).2.2.1, (f_X11_bid S p1 p2 p3).1.toInt64) = z := ⟨_, rfl⟩
    obtain ⟨e1, e2, e3⟩ := tri hS1
    have h1 : St (10000 * (t : Int)) S.1 S1.2.1 := by
      rw [e2, show (f_X11_bid S p1 p2 p3).2.2 = S.2 from g_X11_bid S p1 p2 p3]
      exact h
    rcases bid_ok (A := S) (B := S1) h1 p1 p2 p3 with ⟨q, -⟩ | ⟨q, -⟩ | ⟨q, -⟩ | ⟨q, -⟩ | ⟨-, q2, q3⟩
    · exact (nb_bid_1 ho q).elim
    · exact (nb_bid_2 ho q).elim
    · exact (nb_bid_3 ho q).elim
    · exact (nb_bid_4 ho q).elim
    · have z := sy_go (t := t) (S1 := S1) e1 e3 (g_X12_bid S1 p1 p2 p3) q3 (by omega)
      refine ⟨3, 69, 0, 0, 0, S1, ⟨by decide, by decide, by decide, by decide⟩, ?_, q2, z.1, z.2.1, z.2.2⟩
      rw [← hS1]
      exact n_L_bid p1 p2 p3 ho
  · rcases bid_ok (A := S) (B := S) h p1 p2 p3 with ⟨q1, q2, q3⟩ | ⟨q1, q2, q3⟩ | ⟨q1, q2, q3⟩ | ⟨q1, q2, q3⟩ | ⟨q, -⟩
    · have z := sn_go (t := t) q3 (by decide) h
      exact ⟨9, 145, 1, 6, 1, S, ⟨by decide, by decide, by decide, by decide⟩, x_L_bid_1 p1 p2 p3 q1, q2, z.1, z.2.1, z.2.2⟩
    · have z := sn_go (t := t) q3 (by decide) h
      exact ⟨9, 147, 1, 6, (nI 2), S, ⟨by decide, by decide, by decide, by decide⟩, x_L_bid_2 p1 p2 p3 q1, q2, z.1, z.2.1, z.2.2⟩
    · have z := sn_go (t := t) q3 (by decide) h
      exact ⟨9, 147, 1, 6, (nI 2), S, ⟨by decide, by decide, by decide, by decide⟩, x_L_bid_3 p1 p2 p3 q1, q2, z.1, z.2.1, z.2.2⟩
    · have z := sn_go (t := t) q3 (by decide) h
      exact ⟨8, 125, 1, 6, (nI 3), S, ⟨by decide, by decide, by decide, by decide⟩, x_L_bid_4 p1 p2 p3 q1, q2, z.1, z.2.1, z.2.2⟩
    · exact absurd q ho
theorem st_auction : Step_auction II := by
  intro t S p1 p2 ht h
  by_cases ho : ok_X11_auction S p1 p2
  · obtain ⟨S1, hS1⟩ : ∃ z : Mem, ((f_X11_auction S p1 p2).2.1, (f_X11_auction S p1 p2).2.2.1, (f_X11_auction S p1 p2).1.toInt64) = z := ⟨_, rfl⟩
    obtain ⟨e1, e2, e3⟩ := tri hS1
    have h1 : St (10000 * (t : Int)) S.1 S1.2.1 := by
      rw [e2, show (f_X11_auction S p1 p2).2.2 = S.2 from g_X11_auction S p1 p2]
      exact h
    rcases auction_ok (II.hu ht) (A := S) (B := S1) h1 p1 p2 with ⟨q, -⟩ | ⟨q, -⟩ | ⟨q, -⟩ | ⟨-, q2, q3⟩
    · exact (nb_auction_1 ho q).elim
    · exact (nb_auction_2 ho q).elim
    · exact (nb_auction_3 ho q).elim
    · have z := sy_go (t := t) (S1 := S1) e1 e3 (g_X12_auction S1 p1 p2) q3 (by omega)
      refine ⟨4, 97, 0, 0, 0, S1, ⟨by decide, by decide, by decide, by decide⟩, ?_, q2, z.1, z.2.1, z.2.2⟩
      rw [← hS1]
      exact n_L_auction p1 p2 ho
  · rcases auction_ok (II.hu ht) (A := S) (B := S) h p1 p2 with ⟨q1, q2, q3⟩ | ⟨q1, q2, q3⟩ | ⟨q1, q2, q3⟩ | ⟨q, -⟩
    · have z := sn_go (t := t) q3 (by decide) h
      exact ⟨9, 147, 1, 6, 1, S, ⟨by decide, by decide, by decide, by decide⟩, x_L_auction_1 p1 p2 q1, q2, z.1, z.2.1, z.2.2⟩
    · have z := sn_go (t := t) q3 (by decide) h
      exact ⟨9, 147, 1, 6, 1, S, ⟨by decide, by decide, by decide, by decide⟩, x_L_auction_2 p1 p2 q1, q2, z.1, z.2.1, z.2.2⟩
    · have z := sn_go (t := t) q3 (by decide) h
      exact ⟨8, 125, 1, 6, (nI 2), S, ⟨by decide, by decide, by decide, by decide⟩, x_L_auction_3 p1 p2 q1, q2, z.1, z.2.1, z.2.2⟩
    · exact absurd q ho
theorem st_levy : Step_levy II := by
  intro t S p1 p2 ht h
  by_cases ho : ok_X11_levy S p1 p2
  · obtain ⟨S1, hS1⟩ : ∃ z : Mem, ((f_X11_levy S p1 p2).2.1, (f_X11_levy S p1 p2).2.2.1, (f_X11_levy S p1 p2).1.toInt64) = z := ⟨_, rfl⟩
    obtain ⟨e1, e2, e3⟩ := tri hS1
    have h1 : St (10000 * (t : Int)) S.1 S1.2.1 := by
      rw [e2, show (f_X11_levy S p1 p2).2.2 = S.2 from g_X11_levy S p1 p2]
      exact h
    rcases levy_ok (II.hu ht) (A := S) (B := S1) h1 p1 p2 with ⟨q, -⟩ | ⟨q, -⟩ | ⟨q, -⟩ | ⟨-, q2, q3⟩
    · exact (nb_levy_1 ho q).elim
    · exact (nb_levy_2 ho q).elim
    · exact (nb_levy_3 ho q).elim
    · have z := sy_go (t := t) (S1 := S1) e1 e3 (g_X12_levy S1 p1 p2) q3 (by omega)
      refine ⟨3, 70, 0, 0, 0, S1, ⟨by decide, by decide, by decide, by decide⟩, ?_, q2, z.1, z.2.1, z.2.2⟩
      rw [← hS1]
      exact n_L_levy p1 p2 ho
  · rcases levy_ok (II.hu ht) (A := S) (B := S) h p1 p2 with ⟨q1, q2, q3⟩ | ⟨q1, q2, q3⟩ | ⟨q1, q2, q3⟩ | ⟨q, -⟩
    · have z := sn_go (t := t) q3 (by decide) h
      exact ⟨9, 147, 1, 6, 1, S, ⟨by decide, by decide, by decide, by decide⟩, x_L_levy_1 p1 p2 q1, q2, z.1, z.2.1, z.2.2⟩
    · have z := sn_go (t := t) q3 (by decide) h
      exact ⟨9, 149, 1, 6, (nI 2), S, ⟨by decide, by decide, by decide, by decide⟩, x_L_levy_2 p1 p2 q1, q2, z.1, z.2.1, z.2.2⟩
    · have z := sn_go (t := t) q3 (by decide) h
      exact ⟨8, 127, 1, 6, (nI 3), S, ⟨by decide, by decide, by decide, by decide⟩, x_L_levy_3 p1 p2 q1, q2, z.1, z.2.1, z.2.2⟩
    · exact absurd q ho
theorem st_spend : Step_spend II := by
  intro t S p1 p2 ht h
  by_cases ho : ok_X11_spend S p1 p2
  · obtain ⟨S1, hS1⟩ : ∃ z : Mem, ((f_X11_spend S p1 p2).2.1, (f_X11_spend S p1 p2).2.2.1, (f_X11_spend S p1 p2).1.toInt64) = z := ⟨_, rfl⟩
    obtain ⟨e1, e2, e3⟩ := tri hS1
    have h1 : St (10000 * (t : Int)) S.1 S1.2.1 := by
      rw [e2, show (f_X11_spend S p1 p2).2.2 = S.2 from g_X11_spend S p1 p2]
      exact h
    rcases spend_ok (II.hu ht) (A := S) (B := S1) h1 p1 p2 with ⟨q, -⟩ | ⟨q, -⟩ | ⟨q, -⟩ | ⟨-, q2, q3⟩
    · exact (nb_spend_1 ho q).elim
    · exact (nb_spend_2 ho q).elim
    · exact (nb_spend_3 ho q).elim
    · have z := sy_go (t := t) (S1 := S1) e1 e3 (g_X12_spend S1 p1 p2) q3 (by omega)
      refine ⟨3, 69, 0, 0, 0, S1, ⟨by decide, by decide, by decide, by decide⟩, ?_, q2, z.1, z.2.1, z.2.2⟩
      rw [← hS1]
      exact n_L_spend p1 p2 ho
  · rcases spend_ok (II.hu ht) (A := S) (B := S) h p1 p2 with ⟨q1, q2, q3⟩ | ⟨q1, q2, q3⟩ | ⟨q1, q2, q3⟩ | ⟨q, -⟩
    · have z := sn_go (t := t) q3 (by decide) h
      exact ⟨9, 146, 1, 6, 1, S, ⟨by decide, by decide, by decide, by decide⟩, x_L_spend_1 p1 p2 q1, q2, z.1, z.2.1, z.2.2⟩
    · have z := sn_go (t := t) q3 (by decide) h
      exact ⟨9, 148, 1, 6, (nI 2), S, ⟨by decide, by decide, by decide, by decide⟩, x_L_spend_2 p1 p2 q1, q2, z.1, z.2.1, z.2.2⟩
    · have z := sn_go (t := t) q3 (by decide) h
      exact ⟨8, 126, 1, 6, (nI 3), S, ⟨by decide, by decide, by decide, by decide⟩, x_L_spend_3 p1 p2 q1, q2, z.1, z.2.1, z.2.2⟩
    · exact absurd q ho
theorem st_exchange : Step_exchange II := by
  intro t S p1 ht h
  by_cases ho : ok_X11_exchange S p1
  · obtain ⟨S1, hS1⟩ : ∃ z : Mem, ((f_X11_exchange S p1).2.1, (f_X11_exchange S p1).2.2.1, (f_X11_exchange S p1).1.toInt64) = z := ⟨_, rfl⟩
    obtain ⟨e1, e2, e3⟩ := tri hS1
    have h1 : St (10000 * (t : Int)) S.1 S1.2.1 := by
      rw [e2, show (f_X11_exchange S p1).2.2 = S.2 from g_X11_exchange S p1]
      exact h
    rcases exchange_ok (A := S) (B := S1) h1 p1 with ⟨q, -⟩ | ⟨-, q3⟩
    · exact (nb_exchange_1 ho q).elim
    · have z := sy_go (t := t) (S1 := S1) e1 e3 (g_X12_exchange S1 p1) q3 (by omega)
      refine ⟨3, 64, 0, 0, 0, S1, ⟨by decide, by decide, by decide, by decide⟩, ?_, z.1, z.2.1, z.2.2⟩
      rw [← hS1]
      exact n_L_exchange p1 ho
  · rcases exchange_ok (A := S) (B := S) h p1 with ⟨q1, q3⟩ | ⟨q, -⟩
    · have z := sn_go (t := t) q3 (by decide) h
      exact ⟨9, 146, 1, 6, 1, S, ⟨by decide, by decide, by decide, by decide⟩, x_L_exchange_1 p1 q1, z.1, z.2.1, z.2.2⟩
    · exact absurd q ho
theorem st_abroad : Step_abroad II := by
  intro t S p1 p2 p3 ht h hb_p3
  by_cases ho : ok_X11_abroad S p1 p2 p3
  · obtain ⟨S1, hS1⟩ : ∃ z : Mem, ((f_X11_abroad S p1 p2 p3).2.1, (f_X11_abroad S p1 p2 p3).2.2.1, (f_X11_abroad S p1 p2 p3).1.toInt64) = z := ⟨_, rfl⟩
    obtain ⟨e1, e2, e3⟩ := tri hS1
    have h1 : St (10000 * (t : Int)) S.1 S1.2.1 := by
      rw [e2, show (f_X11_abroad S p1 p2 p3).2.2 = S.2 from g_X11_abroad S p1 p2 p3]
      exact h
    rcases abroad_ok (II.hu ht) (A := S) (B := S1) h1 p1 p2 p3 with ⟨q, -⟩ | ⟨q, -⟩ | ⟨q, -⟩ | ⟨q, -⟩ | ⟨-, q2, q3⟩
    · exact (nb_abroad_1 ho q).elim
    · exact (nb_abroad_2 ho q).elim
    · exact (nb_abroad_3 ho q).elim
    · exact (nb_abroad_4 ho q).elim
    · have z := sy_go (t := t) (S1 := S1) e1 e3 (g_X12_abroad S1 p1 p2 p3) q3 (by omega)
      refine ⟨3, 73, 0, 0, 0, S1, ⟨by decide, by decide, by decide, by decide⟩, ?_, q2, z.1, z.2.1, z.2.2⟩
      rw [← hS1]
      exact n_L_abroad p1 p2 p3 hb_p3 ho
  · rcases abroad_ok (II.hu ht) (A := S) (B := S) h p1 p2 p3 with ⟨q1, q2, q3⟩ | ⟨q1, q2, q3⟩ | ⟨q1, q2, q3⟩ | ⟨q1, q2, q3⟩ | ⟨q, -⟩
    · have z := sn_go (t := t) q3 (by decide) h
      exact ⟨9, 150, 1, 6, 1, S, ⟨by decide, by decide, by decide, by decide⟩, x_L_abroad_1 p1 p2 p3 hb_p3 q1, q2, z.1, z.2.1, z.2.2⟩
    · have z := sn_go (t := t) q3 (by decide) h
      exact ⟨9, 152, 1, 6, (nI 2), S, ⟨by decide, by decide, by decide, by decide⟩, x_L_abroad_2 p1 p2 p3 hb_p3 q1, q2, z.1, z.2.1, z.2.2⟩
    · have z := sn_go (t := t) q3 (by decide) h
      exact ⟨8, 130, 1, 6, (nI 3), S, ⟨by decide, by decide, by decide, by decide⟩, x_L_abroad_3 p1 p2 p3 hb_p3 q1, q2, z.1, z.2.1, z.2.2⟩
    · have z := sn_go (t := t) q3 (by decide) h
      exact ⟨8, 130, 1, 6, (nI 3), S, ⟨by decide, by decide, by decide, by decide⟩, x_L_abroad_4 p1 p2 p3 hb_p3 q1, q2, z.1, z.2.1, z.2.2⟩
    · exact absurd q ho
theorem st_hire : Step_hire II := by
  intro t S p1 p2 p3 ht h
  by_cases ho : ok_X11_hire S p1 p2 p3
  · obtain ⟨S1, hS1⟩ : ∃ z : Mem, ((f_X11_hire S p1 p2 p3).2.1, (f_X11_hire S p1 p2 p3).2.2.1, (f_X11_hire S p1 p2 p3).1.toInt64) = z := ⟨_, rfl⟩
    obtain ⟨e1, e2, e3⟩ := tri hS1
    have h1 : St (10000 * (t : Int)) S.1 S1.2.1 := by
      rw [e2, show (f_X11_hire S p1 p2 p3).2.2 = S.2 from g_X11_hire S p1 p2 p3]
      exact h
    rcases hire_ok (A := S) (B := S1) h1 p1 p2 p3 with ⟨q, -⟩ | ⟨q, -⟩ | ⟨q, -⟩ | ⟨-, q2, q3⟩
    · exact (nb_hire_1 ho q).elim
    · exact (nb_hire_2 ho q).elim
    · exact (nb_hire_3 ho q).elim
    · have z := sy_go (t := t) (S1 := S1) e1 e3 (g_X12_hire S1 p1 p2 p3) q3 (by omega)
      refine ⟨3, 67, 0, 0, 0, S1, ⟨by decide, by decide, by decide, by decide⟩, ?_, q2, z.1, z.2.1, z.2.2⟩
      rw [← hS1]
      exact n_L_hire p1 p2 p3 ho
  · rcases hire_ok (A := S) (B := S) h p1 p2 p3 with ⟨q1, q2, q3⟩ | ⟨q1, q2, q3⟩ | ⟨q1, q2, q3⟩ | ⟨q, -⟩
    · have z := sn_go (t := t) q3 (by decide) h
      exact ⟨9, 147, 1, 6, 1, S, ⟨by decide, by decide, by decide, by decide⟩, x_L_hire_1 p1 p2 p3 q1, q2, z.1, z.2.1, z.2.2⟩
    · have z := sn_go (t := t) q3 (by decide) h
      exact ⟨9, 147, 1, 6, 1, S, ⟨by decide, by decide, by decide, by decide⟩, x_L_hire_2 p1 p2 p3 q1, q2, z.1, z.2.1, z.2.2⟩
    · have z := sn_go (t := t) q3 (by decide) h
      exact ⟨9, 149, 1, 6, (nI 2), S, ⟨by decide, by decide, by decide, by decide⟩, x_L_hire_3 p1 p2 p3 q1, q2, z.1, z.2.1, z.2.2⟩
    · exact absurd q ho
theorem st_buy : Step_buy II := by
  intro t S p1 p2 p3 ht h
  by_cases ho : ok_X11_buy S p1 p2 p3
  · obtain ⟨S1, hS1⟩ : ∃ z : Mem, ((f_X11_buy S p1 p2 p3).2.1, (f_X11_buy S p1 p2 p3).2.2.1, (f_X11_buy S p1 p2 p3).1.toInt64) = z := ⟨_, rfl⟩
    obtain ⟨e1, e2, e3⟩ := tri hS1
    have h1 : St (10000 * (t : Int)) S.1 S1.2.1 := by
      rw [e2, show (f_X11_buy S p1 p2 p3).2.2 = S.2 from g_X11_buy S p1 p2 p3]
      exact h
    rcases buy_op (II.hu ht) (A := S) (B := S1) h1 p1 p2 p3 with ⟨q, -⟩ | ⟨q, -⟩ | ⟨q, -⟩ | ⟨q, -⟩ | ⟨-, q2, q3⟩
    · exact (nb_buy_1 ho q).elim
    · exact (nb_buy_2 ho q).elim
    · exact (nb_buy_3 ho q).elim
    · exact (nb_buy_4 ho q).elim
    · have z := sy_go (t := t) (S1 := S1) e1 e3 (g_X12_buy S1 p1 p2 p3) q3 (by omega)
      refine ⟨5, 121, 0, 0, 0, S1, ⟨by decide, by decide, by decide, by decide⟩, ?_, q2, z.1, z.2.1, z.2.2⟩
      rw [← hS1]
      exact n_L_buy p1 p2 p3 ho
  · rcases buy_op (II.hu ht) (A := S) (B := S) h p1 p2 p3 with ⟨q1, q2, q3⟩ | ⟨q1, q2, q3⟩ | ⟨q1, q2, q3⟩ | ⟨q1, q2, q3⟩ | ⟨q, -⟩
    · have z := sn_go (t := t) q3 (by decide) h
      exact ⟨9, 147, 1, 6, 1, S, ⟨by decide, by decide, by decide, by decide⟩, x_L_buy_1 p1 p2 p3 q1, q2, z.1, z.2.1, z.2.2⟩
    · have z := sn_go (t := t) q3 (by decide) h
      exact ⟨9, 147, 1, 6, 1, S, ⟨by decide, by decide, by decide, by decide⟩, x_L_buy_2 p1 p2 p3 q1, q2, z.1, z.2.1, z.2.2⟩
    · have z := sn_go (t := t) q3 (by decide) h
      exact ⟨9, 149, 1, 6, (nI 2), S, ⟨by decide, by decide, by decide, by decide⟩, x_L_buy_3 p1 p2 p3 q1, q2, z.1, z.2.1, z.2.2⟩
    · have z := sn_go (t := t) q3 (by decide) h
      exact ⟨8, 127, 1, 6, (nI 3), S, ⟨by decide, by decide, by decide, by decide⟩, x_L_buy_4 p1 p2 p3 q1, q2, z.1, z.2.1, z.2.2⟩
    · exact absurd q ho
theorem st_day : Step_day II := by
  intro t S p1 ht h
  by_cases ho : ok_X11_day S p1
  · obtain ⟨S1, hS1⟩ : ∃ z : Mem, ((f_X11_day S p1).2.1, (f_X11_day S p1).2.2.1, (f_X11_day S p1).1.toInt64) = z := ⟨_, rfl⟩
    obtain ⟨e1, e2, e3⟩ := tri hS1
    have h1 : St (10000 * (t : Int)) S.1 S1.2.1 := by
      rw [e2, show (f_X11_day S p1).2.2 = S.2 from g_X11_day S p1]
      exact h
    rcases day_op (II.hu ht) (A := S) (B := S1) h1 p1 with ⟨q, -⟩ | ⟨q, -⟩ | ⟨-, q2, q3⟩
    · exact (nb_day_1 ho q).elim
    · exact (nb_day_2 ho q).elim
    · have z := sy_go (t := t) (S1 := S1) e1 e3 (g_X12_day S1 p1) q3 (by omega)
      refine ⟨7, 169, 0, 0, 0, S1, ⟨by decide, by decide, by decide, by decide⟩, ?_, q2, z.1, z.2.1, z.2.2⟩
      rw [← hS1]
      exact n_L_day p1 ho
  · rcases day_op (II.hu ht) (A := S) (B := S) h p1 with ⟨q1, q2, q3⟩ | ⟨q1, q2, q3⟩ | ⟨q, -⟩
    · have z := sn_go (t := t) q3 (by decide) h
      exact ⟨9, 146, 1, 6, 1, S, ⟨by decide, by decide, by decide, by decide⟩, x_L_day_1 p1 q1, q2, z.1, z.2.1, z.2.2⟩
    · have z := sn_go (t := t) q3 (by decide) h
      exact ⟨8, 124, 1, 6, (nI 2), S, ⟨by decide, by decide, by decide, by decide⟩, x_L_day_2 p1 q1, q2, z.1, z.2.1, z.2.2⟩
    · exact absurd q ho
theorem st_fail : Step_fail II := by
  intro t S p1 ht h
  by_cases ho : ok_X11_fail S p1
  · obtain ⟨S1, hS1⟩ : ∃ z : Mem, ((f_X11_fail S p1).2.1, (f_X11_fail S p1).2.2.1, (f_X11_fail S p1).1.toInt64) = z := ⟨_, rfl⟩
    obtain ⟨e1, e2, e3⟩ := tri hS1
    have h1 : St (10000 * (t : Int)) S.1 S1.2.1 := by
      rw [e2, show (f_X11_fail S p1).2.2 = S.2 from g_X11_fail S p1]
      exact h
    rcases fail_op (II.hu ht) (A := S) (B := S1) h1 p1 with ⟨q, -⟩ | ⟨q, -⟩ | ⟨-, q2, q3⟩
    · exact (nb_fail_1 ho q).elim
    · exact (nb_fail_2 ho q).elim
    · have z := sy_go (t := t) (S1 := S1) e1 e3 (g_X12_fail S1 p1) q3 (by omega)
      refine ⟨5, 124, 0, 0, 0, S1, ⟨by decide, by decide, by decide, by decide⟩, ?_, q2, z.1, z.2.1, z.2.2⟩
      rw [← hS1]
      exact n_L_fail p1 ho
  · rcases fail_op (II.hu ht) (A := S) (B := S) h p1 with ⟨q1, q2, q3⟩ | ⟨q1, q2, q3⟩ | ⟨q, -⟩
    · have z := sn_go (t := t) q3 (by decide) h
      exact ⟨9, 143, 1, 6, 1, S, ⟨by decide, by decide, by decide, by decide⟩, x_L_fail_1 p1 q1, q2, z.1, z.2.1, z.2.2⟩
    · have z := sn_go (t := t) q3 (by decide) h
      exact ⟨8, 123, 1, 6, (nI 2), S, ⟨by decide, by decide, by decide, by decide⟩, x_L_fail_2 p1 q1, q2, z.1, z.2.1, z.2.2⟩
    · exact absurd q ho
theorem st_days : Step_days II := by
  intro t S ht h
  have q3 := days_q (A := S) (B := S) h
  have z := sk_go (t := t) (g_X12_days S) q3 (by omega)
  exact ⟨z.1, z.2⟩
theorem st_ofHolder : Step_ofHolder II := by
  intro t S p1 p2 ht h
  by_cases ho : ok_X11_ofHolder S p1 p2
  · obtain ⟨S1, hS1⟩ : ∃ z : Mem, (S.1, S.2.1, (f_X11_ofHolder S p1 p2).toInt64) = z := ⟨_, rfl⟩
    obtain ⟨e1, e2, e3⟩ := tri hS1
    have h1 : St (10000 * (t : Int)) S.1 S1.2.1 := by
      rw [e2]
      exact h
    rcases ofHolder_q (A := S) (B := S1) h1 p1 p2 with ⟨q, -⟩ | ⟨q, -⟩ | ⟨-, q2, q3⟩
    · exact (nb_ofHolder_1 ho q).elim
    · exact (nb_ofHolder_2 ho q).elim
    · have z := sq_go (t := t) (S := S) (S1 := S1) e1 e3 (g_X12_ofHolder S1 p1 p2) q3 (by omega)
      refine ⟨3, 65, 0, 0, 0, S1, ⟨by decide, by decide, by decide, by decide⟩, ?_, q2, z.1, z.2.1, z.2.2⟩
      rw [← hS1]
      exact n_L_ofHolder p1 p2 ho
  · rcases ofHolder_q (A := S) (B := S) h p1 p2 with ⟨q1, q2, q3⟩ | ⟨q1, q2, q3⟩ | ⟨q, -⟩
    · have z := sn_go (t := t) q3 (by decide) h
      exact ⟨9, 145, 1, 6, 1, S, ⟨by decide, by decide, by decide, by decide⟩, x_L_ofHolder_1 p1 p2 q1, q2, z.1, z.2.1, z.2.2⟩
    · have z := sn_go (t := t) q3 (by decide) h
      exact ⟨9, 147, 1, 6, (nI 2), S, ⟨by decide, by decide, by decide, by decide⟩, x_L_ofHolder_2 p1 p2 q1, q2, z.1, z.2.1, z.2.2⟩
    · exact absurd q ho
theorem st_accountAnew : Step_accountAnew II := by
  intro t S p1 ht h
  by_cases ho : ok_X11_accountAnew S p1
  · obtain ⟨S1, hS1⟩ : ∃ z : Mem, (S.1, S.2.1, (f_X11_accountAnew S p1).toInt64) = z := ⟨_, rfl⟩
    obtain ⟨e1, e2, e3⟩ := tri hS1
    have h1 : St (10000 * (t : Int)) S.1 S1.2.1 := by
      rw [e2]
      exact h
    rcases accountAnew_q (A := S) (B := S1) h1 p1 with ⟨q, -⟩ | ⟨-, q2, q3⟩
    · exact (nb_accountAnew_1 ho q).elim
    · have z := sq_go (t := t) (S := S) (S1 := S1) e1 e3 (g_X12_accountAnew S1 p1) q3 (by omega)
      refine ⟨3, 61, 0, 0, 0, S1, ⟨by decide, by decide, by decide, by decide⟩, ?_, q2, z.1, z.2.1, z.2.2⟩
      rw [← hS1]
      exact n_L_accountAnew p1 ho
  · rcases accountAnew_q (A := S) (B := S) h p1 with ⟨q1, q2, q3⟩ | ⟨q, -⟩
    · have z := sn_go (t := t) q3 (by decide) h
      exact ⟨9, 143, 1, 6, 1, S, ⟨by decide, by decide, by decide, by decide⟩, x_L_accountAnew_1 p1 q1, q2, z.1, z.2.1, z.2.2⟩
    · exact absurd q ho
theorem st_ofBank : Step_ofBank II := by
  intro t S p1 p2 ht h
  by_cases ho : ok_X11_ofBank S p1 p2
  · obtain ⟨S1, hS1⟩ : ∃ z : Mem, (S.1, S.2.1, (f_X11_ofBank S p1 p2).toInt64) = z := ⟨_, rfl⟩
    obtain ⟨e1, e2, e3⟩ := tri hS1
    have h1 : St (10000 * (t : Int)) S.1 S1.2.1 := by
      rw [e2]
      exact h
    rcases ofBank_q (A := S) (B := S1) h1 p1 p2 with ⟨q, -⟩ | ⟨q, -⟩ | ⟨-, q2, q3⟩
    · exact (nb_ofBank_1 ho q).elim
    · exact (nb_ofBank_2 ho q).elim
    · have z := sq_go (t := t) (S := S) (S1 := S1) e1 e3 (g_X12_ofBank S1 p1 p2) q3 (by omega)
      refine ⟨4, 92, 0, 0, 0, S1, ⟨by decide, by decide, by decide, by decide⟩, ?_, q2, z.1, z.2.1, z.2.2⟩
      rw [← hS1]
      exact n_L_ofBank p1 p2 ho
  · rcases ofBank_q (A := S) (B := S) h p1 p2 with ⟨q1, q2, q3⟩ | ⟨q1, q2, q3⟩ | ⟨q, -⟩
    · have z := sn_go (t := t) q3 (by decide) h
      exact ⟨9, 145, 1, 6, 1, S, ⟨by decide, by decide, by decide, by decide⟩, x_L_ofBank_1 p1 p2 q1, q2, z.1, z.2.1, z.2.2⟩
    · have z := sn_go (t := t) q3 (by decide) h
      exact ⟨9, 147, 1, 6, (nI 2), S, ⟨by decide, by decide, by decide, by decide⟩, x_L_ofBank_2 p1 p2 q1, q2, z.1, z.2.1, z.2.2⟩
    · exact absurd q ho
theorem st_ofLoan : Step_ofLoan II := by
  intro t S p1 p2 ht h
  by_cases ho : ok_X11_ofLoan S p1 p2
  · obtain ⟨S1, hS1⟩ : ∃ z : Mem, (S.1, S.2.1, (f_X11_ofLoan S p1 p2).toInt64) = z := ⟨_, rfl⟩
    obtain ⟨e1, e2, e3⟩ := tri hS1
    have h1 : St (10000 * (t : Int)) S.1 S1.2.1 := by
      rw [e2]
      exact h
    rcases ofLoan_q (A := S) (B := S1) h1 p1 p2 with ⟨q, -⟩ | ⟨q, -⟩ | ⟨-, q2, q3⟩
    · exact (nb_ofLoan_1 ho q).elim
    · exact (nb_ofLoan_2 ho q).elim
    · have z := sq_go (t := t) (S := S) (S1 := S1) e1 e3 (g_X12_ofLoan S1 p1 p2) q3 (by omega)
      refine ⟨3, 65, 0, 0, 0, S1, ⟨by decide, by decide, by decide, by decide⟩, ?_, q2, z.1, z.2.1, z.2.2⟩
      rw [← hS1]
      exact n_L_ofLoan p1 p2 ho
  · rcases ofLoan_q (A := S) (B := S) h p1 p2 with ⟨q1, q2, q3⟩ | ⟨q1, q2, q3⟩ | ⟨q, -⟩
    · have z := sn_go (t := t) q3 (by decide) h
      exact ⟨9, 146, 1, 6, 1, S, ⟨by decide, by decide, by decide, by decide⟩, x_L_ofLoan_1 p1 p2 q1, q2, z.1, z.2.1, z.2.2⟩
    · have z := sn_go (t := t) q3 (by decide) h
      exact ⟨9, 147, 1, 6, (nI 2), S, ⟨by decide, by decide, by decide, by decide⟩, x_L_ofLoan_2 p1 p2 q1, q2, z.1, z.2.1, z.2.2⟩
    · exact absurd q ho
theorem st_payment : Step_payment II := by
  intro t S p1 ht h
  by_cases ho : ok_X11_payment S p1
  · obtain ⟨S1, hS1⟩ : ∃ z : Mem, (S.1, S.2.1, (f_X11_payment S p1).toInt64) = z := ⟨_, rfl⟩
    obtain ⟨e1, e2, e3⟩ := tri hS1
    have h1 : St (10000 * (t : Int)) S.1 S1.2.1 := by
      rw [e2]
      exact h
    rcases payment_q (A := S) (B := S1) h1 p1 with ⟨q, -⟩ | ⟨-, q2, q3⟩
    · exact (nb_payment_1 ho q).elim
    · have z := sq_go (t := t) (S := S) (S1 := S1) e1 e3 (g_X12_payment S1 p1) q3 (by omega)
      refine ⟨2, 43, 0, 0, 0, S1, ⟨by decide, by decide, by decide, by decide⟩, ?_, q2, z.1, z.2.1, z.2.2⟩
      rw [← hS1]
      exact n_L_payment p1 ho
  · rcases payment_q (A := S) (B := S) h p1 with ⟨q1, q2, q3⟩ | ⟨q, -⟩
    · have z := sn_go (t := t) q3 (by decide) h
      exact ⟨8, 123, 1, 6, 1, S, ⟨by decide, by decide, by decide, by decide⟩, x_L_payment_1 p1 q1, q2, z.1, z.2.1, z.2.2⟩
    · exact absurd q ho
theorem st_treasury : Step_treasury II := by
  intro t S ht h
  have q3 := treasury_q (A := S) (B := S) h
  have z := sk_go (t := t) (g_X12_treasury S) q3 (by omega)
  exact ⟨z.1, z.2⟩
theorem st_owed : Step_owed II := by
  intro t S ht h
  obtain ⟨q1, q2, q3⟩ := owed_q (A := S) (B := S) h
  have z := sk_go (t := t) (g_X12_owed S) q3 (by omega)
  exact ⟨q1, q2, z.1, z.2⟩
theorem st_foreign : Step_foreign II := by
  intro t S ht h
  have q3 := foreign_q (A := S) (B := S) h
  have z := sk_go (t := t) (g_X12_foreign S) q3 (by omega)
  exact ⟨z.1, z.2⟩
theorem st_central : Step_central II := by
  intro t S ht h
  obtain ⟨q1, q2, q3⟩ := central_q (A := S) (B := S) h
  have z := sk_go (t := t) (g_X12_central S) q3 (by omega)
  exact ⟨q1, q2, z.1, z.2⟩
theorem st_centralAnew : Step_centralAnew II := by
  intro t S ht h
  obtain ⟨q1, q2, q3⟩ := centralAnew_q (A := S) (B := S) h
  have z := sk_go (t := t) (g_X12_centralAnew S) q3 (by omega)
  exact ⟨q1, q2, z.1, z.2⟩
theorem st_money : Step_money II := by
  intro t S ht h
  have q3 := money_q (A := S) (B := S) h
  have z := sk_go (t := t) (g_X12_money S) q3 (by omega)
  exact ⟨z.1, z.2⟩
theorem st_price : Step_price II := by
  intro t S p1 ht h
  by_cases ho : ok_X11_price S p1
  · obtain ⟨S1, hS1⟩ : ∃ z : Mem, (S.1, S.2.1, (f_X11_price S p1).toInt64) = z := ⟨_, rfl⟩
    obtain ⟨e1, e2, e3⟩ := tri hS1
    have h1 : St (10000 * (t : Int)) S.1 S1.2.1 := by
      rw [e2]
      exact h
    rcases price_q (A := S) (B := S1) h1 p1 with ⟨q, -⟩ | ⟨-, q2, q3⟩
    · exact (nb_price_1 ho q).elim
    · have z := sq_go (t := t) (S := S) (S1 := S1) e1 e3 (g_X12_price S1 p1) q3 (by omega)
      refine ⟨3, 61, 0, 0, 0, S1, ⟨by decide, by decide, by decide, by decide⟩, ?_, q2, z.1, z.2.1, z.2.2⟩
      rw [← hS1]
      exact n_L_price p1 ho
  · rcases price_q (A := S) (B := S) h p1 with ⟨q1, q2, q3⟩ | ⟨q, -⟩
    · have z := sn_go (t := t) q3 (by decide) h
      exact ⟨9, 143, 1, 6, 1, S, ⟨by decide, by decide, by decide, by decide⟩, x_L_price_1 p1 q1, q2, z.1, z.2.1, z.2.2⟩
    · exact absurd q ho
theorem st_sales : Step_sales II := by
  intro t S p1 p2 ht h hb_p2
  by_cases ho : ok_X11_sales S p1 p2
  · obtain ⟨S1, hS1⟩ : ∃ z : Mem, (S.1, S.2.1, (f_X11_sales S p1 p2).toInt64) = z := ⟨_, rfl⟩
    obtain ⟨e1, e2, e3⟩ := tri hS1
    have h1 : St (10000 * (t : Int)) S.1 S1.2.1 := by
      rw [e2]
      exact h
    rcases sales_q (A := S) (B := S1) h1 p1 p2 with ⟨q, -⟩ | ⟨-, q2, q3⟩
    · exact (nb_sales_1 ho q).elim
    · have z := sq_go (t := t) (S := S) (S1 := S1) e1 e3 (g_X12_sales S1 p1 p2) q3 (by omega)
      refine ⟨3, 70, 0, 0, 0, S1, ⟨by decide, by decide, by decide, by decide⟩, ?_, q2, z.1, z.2.1, z.2.2⟩
      rw [← hS1]
      exact n_L_sales p1 p2 hb_p2 ho
  · rcases sales_q (A := S) (B := S) h p1 p2 with ⟨q1, q2, q3⟩ | ⟨q, -⟩
    · have z := sn_go (t := t) q3 (by decide) h
      exact ⟨8, 124, 1, 6, 1, S, ⟨by decide, by decide, by decide, by decide⟩, x_L_sales_1 p1 p2 hb_p2 q1, q2, z.1, z.2.1, z.2.2⟩
    · exact absurd q ho
theorem all_steps : AllSteps II := ⟨st_mint, st_forge, st_hand, st_open, st_close, st_bring, st_draw, st_pay, st_clear, st_limit, st_endow, st_lend, st_payBack, st_window, st_windowBack, st_rules, st_buyBonds, st_bid, st_auction, st_levy, st_spend, st_exchange, st_abroad, st_hire, st_buy, st_day, st_fail, st_days, st_ofHolder, st_accountAnew, st_ofBank, st_ofLoan, st_payment, st_treasury, st_owed, st_foreign, st_central, st_centralAnew, st_money, st_price, st_sales⟩
