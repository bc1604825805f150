/-! the class: a hint by trials (own work) -/
theorem colF_1 {J : fx_MJ} {q k c : Nat} (hk : k < 64) : colF J q ((1 : Int64) <<< ((nI k).toInt64 &&& 63)) c = lb (J q c) k := by
  unfold colF
  cases h : lb (J q c) k
  · have e : J q c &&& ((1 : Int64) <<< ((nI k).toInt64 &&& 63)) = 0 := l_ext fun i hi => by
      rw [l_and, lb_one hk hi, l_0]
      by_cases h1 : i = k
      · rw [h1, h]
        rfl
      · rw [decide_eq_false h1, Bool.and_false]
    rw [e]
    rfl
  · have e : ¬ J q c &&& ((1 : Int64) <<< ((nI k).toInt64 &&& 63)) = 0 := fun z => by
      have := congrArg (fun y => lb y k) z
      simp only [l_and, lb_one hk hk, l_0, h, decide_true, Bool.and_true] at this
      cases this
    rw [decide_eq_false e]
    rfl
