/-! new Row: its constructor -/
theorem c_Row {l : Launch} {E : xE} {h0 : Nat} {sort n : Int} {H0 : Heap} (hn : 0 ≤ n ∧ n ≤ 40) (hE : E.1 ≤ h0) {V : Nat → Value} (hO : t_OB h0 (E.2.2.1 6) 2 (E.2.2.2.1 6) H0 V) : Met l m_X6_init.1 (x_ws m_X6_init) (x_rm (2, 1, 40)) (x_PR E h0 sort n H0) (x_QR E h0 sort n H0) 1 40 (fun q => E.1 ≤ q) := by
  sorry
