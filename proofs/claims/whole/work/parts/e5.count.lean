/-! count: the class's answers are the reference's. -/
theorem count_r {R : Nat → Nat → Nat} {I I' : Nat → Nat → Int32} {g t a : Nat} {T : mo_Tn} {w : Int32} (hv : mo_vT T) (hF : mo_fT T) (h5 : I (R t 0) 7 = w_Model_count_71 T / 2) (h9 : I (R g 1) 1 = I' a 2) : o_Gate_count R I g t T w = (o_Model_count I' a T w).1 := by
  unfold o_Gate_count o_Model_count
  by_cases c0 : w = 0
  · rw [if_pos c0, if_pos c0]
  · rw [if_neg c0, if_neg c0]
    by_cases c1 : w = 1
    · rw [if_pos c1, if_pos c1]
    · rw [if_neg c1, if_neg c1]
      by_cases c2 : w = 2
      · rw [if_pos c2, if_pos c2]
      · rw [if_neg c2, if_neg c2]
        by_cases c3 : w = 3
        · rw [if_pos c3, if_pos c3]
        · rw [if_neg c3, if_neg c3]
          by_cases c4 : w = 4
          · rw [if_pos c4, if_pos c4]
          · rw [if_neg c4, if_neg c4]
            by_cases c5 : w = 5
            · rw [if_pos c5, if_pos c5]; exact h5
            · rw [if_neg c5, if_neg c5]
              by_cases c6 : w = 6
              · rw [if_pos c6, if_pos c6]
              · rw [if_neg c6, if_neg c6]
                by_cases c7 : w = 7
                · rw [if_pos c7, if_pos c7]; exact count_7 hv hF
                · rw [if_neg c7, if_neg c7]
                  by_cases c8 : w = 8
                  · rw [if_pos c8, if_pos c8]
                  · rw [if_neg c8, if_neg c8]
                    by_cases c9 : w = 9
                    · rw [if_pos c9, if_pos c9]; exact h9
                    · rw [if_neg c9, if_neg c9]
