/-! the law as a method -/
set_option maxRecDepth 100000 in
theorem m_law_app : m_L_law.2.2.2.2 = m_law_0 ++ (m_law_1 ++ (m_law_2 ++ (m_law_3 ++ (m_law_4 ++ (m_law_5 ++ (m_law_6 ++ (m_law_7 ++ (m_law_8 ++ (m_law_9))))))))) := rfl
set_option maxRecDepth 100000 in
theorem dt_L_law : ∀ q ∈ m_L_law.2.2.2.2, decode code q.1 = .ok q.2 := by
  intro q hq
  rw [m_law_app] at hq
  simp only [List.mem_append] at hq
  rcases hq with hq | hq | hq | hq | hq | hq | hq | hq | hq | hq
  · exact of_decide_eq_true (List.all_eq_true.mp dt_law_0 q hq)
  · exact of_decide_eq_true (List.all_eq_true.mp dt_law_1 q hq)
  · exact of_decide_eq_true (List.all_eq_true.mp dt_law_2 q hq)
  · exact of_decide_eq_true (List.all_eq_true.mp dt_law_3 q hq)
  · exact of_decide_eq_true (List.all_eq_true.mp dt_law_4 q hq)
  · exact of_decide_eq_true (List.all_eq_true.mp dt_law_5 q hq)
  · exact of_decide_eq_true (List.all_eq_true.mp dt_law_6 q hq)
  · exact of_decide_eq_true (List.all_eq_true.mp dt_law_7 q hq)
  · exact of_decide_eq_true (List.all_eq_true.mp dt_law_8 q hq)
  · exact of_decide_eq_true (List.all_eq_true.mp dt_law_9 q hq)
set_option maxRecDepth 100000 in
theorem ok_L_law : x_Mok m_L_law := ⟨plainFor_of_name (by decide +kernel), Or.inl rfl, dt_L_law, by decide, by decide +kernel, by decide +kernel⟩
