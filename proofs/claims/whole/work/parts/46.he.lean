/-! the tables of the law's wrappers; printed by wip/gen/he.py -/
theorem kh_La_13 : Cond.classLink "SnowmeltStreamsLaw" 13 "java/lang/IllegalArgumentException" ∈ gw := (gw_t3 25 (by decide +kernel) rfl)
theorem kh_La_15 : Cond.classLink "SnowmeltStreamsLaw" 15 "java/lang/IllegalStateException" ∈ gw := (gw_t3 26 (by decide +kernel) rfl)
theorem he_La_job_1 : HE m_La_job 10 "java/lang/IllegalArgumentException" 1 := by
  refine ⟨[], _, _, _, rfl, ?_, by decide +kernel, by decide, kh_La_13, by decide, Or.inr ⟨7, 1, by decide, by decide, d_La_job_16, d_La_job_18, d_La_job_19⟩⟩
  exact fun _ h => nomatch h
theorem he_La_job_2 : HE m_La_job 10 "java/lang/IllegalStateException" 2 := by
  refine ⟨[_], _, _, _, rfl, ?_, by decide +kernel, by decide, kh_La_15, by decide, Or.inr ⟨7, 2, by decide, by decide, d_La_job_20, d_La_job_22, d_La_job_23⟩⟩
  exact fun z hz => by
    simp only [List.mem_cons, List.not_mem_nil, or_false] at hz
    rw [hz]
    exact Or.inr ⟨by decide, _, kh_La_13, by decide⟩
theorem kh_La_21 : Cond.classLink "SnowmeltStreamsLaw" 21 "java/lang/IndexOutOfBoundsException" ∈ gw := (gw_t3 129 (by decide +kernel) rfl)
theorem he_La_slack_1 : HE m_La_slack 5 "java/lang/IndexOutOfBoundsException" 1 := by
  refine ⟨[], _, _, _, rfl, ?_, by decide +kernel, by decide, kh_La_21, by decide, Or.inr ⟨4, 1, by decide, by decide, d_La_slack_13, d_La_slack_15, d_La_slack_16⟩⟩
  exact fun _ h => nomatch h
theorem he_La_slack_2 : HE m_La_slack 5 "java/lang/IllegalArgumentException" 2 := by
  refine ⟨[_], _, _, _, rfl, ?_, by decide +kernel, by decide, kh_La_13, by decide, Or.inr ⟨4, 2, by decide, by decide, d_La_slack_17, d_La_slack_19, d_La_slack_20⟩⟩
  exact fun z hz => by
    simp only [List.mem_cons, List.not_mem_nil, or_false] at hz
    rw [hz]
    exact Or.inr ⟨by decide, _, kh_La_21, by decide⟩
theorem he_La_slack_3 : HE m_La_slack 5 "java/lang/IllegalStateException" 3 := by
  refine ⟨[_, _], _, _, _, rfl, ?_, by decide +kernel, by decide, kh_La_15, by decide, Or.inr ⟨4, 3, by decide, by decide, d_La_slack_21, d_La_slack_23, d_La_slack_24⟩⟩
  exact fun z hz => by
    simp only [List.mem_cons, List.not_mem_nil, or_false] at hz
    rcases hz with hz | hz
    · rw [hz]
      exact Or.inr ⟨by decide, _, kh_La_21, by decide⟩
    · rw [hz]
      exact Or.inr ⟨by decide, _, kh_La_13, by decide⟩
theorem he_La_append_1 : HE m_La_append 9 "java/lang/IndexOutOfBoundsException" 1 := by
  refine ⟨[], _, _, _, rfl, ?_, by decide +kernel, by decide, kh_La_21, by decide, Or.inr ⟨6, 1, by decide, by decide, d_La_append_17, d_La_append_19, d_La_append_20⟩⟩
  exact fun _ h => nomatch h
theorem he_La_append_2 : HE m_La_append 9 "java/lang/IllegalArgumentException" 2 := by
  refine ⟨[_], _, _, _, rfl, ?_, by decide +kernel, by decide, kh_La_13, by decide, Or.inr ⟨6, 2, by decide, by decide, d_La_append_21, d_La_append_23, d_La_append_24⟩⟩
  exact fun z hz => by
    simp only [List.mem_cons, List.not_mem_nil, or_false] at hz
    rw [hz]
    exact Or.inr ⟨by decide, _, kh_La_21, by decide⟩
theorem he_La_append_3 : HE m_La_append 9 "java/lang/IllegalStateException" 3 := by
  refine ⟨[_, _], _, _, _, rfl, ?_, by decide +kernel, by decide, kh_La_15, by decide, Or.inr ⟨6, 3, by decide, by decide, d_La_append_25, d_La_append_27, d_La_append_28⟩⟩
  exact fun z hz => by
    simp only [List.mem_cons, List.not_mem_nil, or_false] at hz
    rcases hz with hz | hz
    · rw [hz]
      exact Or.inr ⟨by decide, _, kh_La_21, by decide⟩
    · rw [hz]
      exact Or.inr ⟨by decide, _, kh_La_13, by decide⟩
theorem he_La_read_1 : HE m_La_read 4 "java/lang/IndexOutOfBoundsException" 1 := by
  refine ⟨[], _, _, _, rfl, ?_, by decide +kernel, by decide, kh_La_21, by decide, Or.inl ⟨3, 1, by decide, by decide, d_La_read_12, d_La_read_13, d_La_read_14⟩⟩
  exact fun _ h => nomatch h
theorem he_La_read_2 : HE m_La_read 4 "java/lang/IllegalStateException" 2 := by
  refine ⟨[_], _, _, _, rfl, ?_, by decide +kernel, by decide, kh_La_15, by decide, Or.inl ⟨3, 2, by decide, by decide, d_La_read_15, d_La_read_16, d_La_read_17⟩⟩
  exact fun z hz => by
    simp only [List.mem_cons, List.not_mem_nil, or_false] at hz
    rw [hz]
    exact Or.inr ⟨by decide, _, kh_La_21, by decide⟩
theorem he_La_idle_1 : HE m_La_idle 5 "java/lang/IndexOutOfBoundsException" 1 := by
  refine ⟨[], _, _, _, rfl, ?_, by decide +kernel, by decide, kh_La_21, by decide, Or.inr ⟨4, 1, by decide, by decide, d_La_idle_20, d_La_idle_22, d_La_idle_23⟩⟩
  exact fun _ h => nomatch h
theorem he_La_take_1 : HE m_La_take 4 "java/lang/IndexOutOfBoundsException" 1 := by
  refine ⟨[], _, _, _, rfl, ?_, by decide +kernel, by decide, kh_La_21, by decide, Or.inl ⟨3, 1, by decide, by decide, d_La_take_12, d_La_take_13, d_La_take_14⟩⟩
  exact fun _ h => nomatch h
theorem he_La_take_2 : HE m_La_take 4 "java/lang/IllegalStateException" 2 := by
  refine ⟨[_], _, _, _, rfl, ?_, by decide +kernel, by decide, kh_La_15, by decide, Or.inl ⟨3, 2, by decide, by decide, d_La_take_15, d_La_take_16, d_La_take_17⟩⟩
  exact fun z hz => by
    simp only [List.mem_cons, List.not_mem_nil, or_false] at hz
    rw [hz]
    exact Or.inr ⟨by decide, _, kh_La_21, by decide⟩
theorem he_La_barrier_1 : HE m_La_barrier 3 "java/lang/IllegalStateException" 1 := by
  refine ⟨[], _, _, _, rfl, ?_, by decide +kernel, by decide, kh_La_15, by decide, Or.inl ⟨2, 1, by decide, by decide, d_La_barrier_11, d_La_barrier_12, d_La_barrier_13⟩⟩
  exact fun _ h => nomatch h
theorem he_La_confirm_1 : HE m_La_confirm 3 "java/lang/IllegalStateException" 1 := by
  refine ⟨[], _, _, _, rfl, ?_, by decide +kernel, by decide, kh_La_15, by decide, Or.inl ⟨2, 1, by decide, by decide, d_La_confirm_11, d_La_confirm_12, d_La_confirm_13⟩⟩
  exact fun _ h => nomatch h
theorem he_La_workers_1 : HE m_La_workers 4 "java/lang/IllegalArgumentException" 1 := by
  refine ⟨[], _, _, _, rfl, ?_, by decide +kernel, by decide, kh_La_13, by decide, Or.inl ⟨3, 1, by decide, by decide, d_La_workers_12, d_La_workers_13, d_La_workers_14⟩⟩
  exact fun _ h => nomatch h
theorem he_La_workers_2 : HE m_La_workers 4 "java/lang/IllegalStateException" 2 := by
  refine ⟨[_], _, _, _, rfl, ?_, by decide +kernel, by decide, kh_La_15, by decide, Or.inl ⟨3, 2, by decide, by decide, d_La_workers_15, d_La_workers_16, d_La_workers_17⟩⟩
  exact fun z hz => by
    simp only [List.mem_cons, List.not_mem_nil, or_false] at hz
    rw [hz]
    exact Or.inr ⟨by decide, _, kh_La_13, by decide⟩
theorem he_La_sourceWatermark_1 : HE m_La_sourceWatermark 4 "java/lang/IndexOutOfBoundsException" 1 := by
  refine ⟨[], _, _, _, rfl, ?_, by decide +kernel, by decide, kh_La_21, by decide, Or.inl ⟨3, 1, by decide, by decide, d_La_sourceWatermark_12, d_La_sourceWatermark_13, d_La_sourceWatermark_14⟩⟩
  exact fun _ h => nomatch h
theorem he_La_offset_1 : HE m_La_offset 4 "java/lang/IndexOutOfBoundsException" 1 := by
  refine ⟨[], _, _, _, rfl, ?_, by decide +kernel, by decide, kh_La_21, by decide, Or.inl ⟨3, 1, by decide, by decide, d_La_offset_12, d_La_offset_13, d_La_offset_14⟩⟩
  exact fun _ h => nomatch h
theorem he_La_inChannel_1 : HE m_La_inChannel 4 "java/lang/IndexOutOfBoundsException" 1 := by
  refine ⟨[], _, _, _, rfl, ?_, by decide +kernel, by decide, kh_La_21, by decide, Or.inl ⟨3, 1, by decide, by decide, d_La_inChannel_12, d_La_inChannel_13, d_La_inChannel_14⟩⟩
  exact fun _ h => nomatch h
theorem he_La_open_1 : HE m_La_open 4 "java/lang/IndexOutOfBoundsException" 1 := by
  refine ⟨[], _, _, _, rfl, ?_, by decide +kernel, by decide, kh_La_21, by decide, Or.inl ⟨3, 1, by decide, by decide, d_La_open_12, d_La_open_13, d_La_open_14⟩⟩
  exact fun _ h => nomatch h
theorem he_La_sumAt_1 : HE m_La_sumAt 5 "java/lang/IndexOutOfBoundsException" 1 := by
  refine ⟨[], _, _, _, rfl, ?_, by decide +kernel, by decide, kh_La_21, by decide, Or.inr ⟨4, 1, by decide, by decide, d_La_sumAt_13, d_La_sumAt_15, d_La_sumAt_16⟩⟩
  exact fun _ h => nomatch h
theorem he_La_sumAt_2 : HE m_La_sumAt 5 "java/lang/IllegalArgumentException" 2 := by
  refine ⟨[_], _, _, _, rfl, ?_, by decide +kernel, by decide, kh_La_13, by decide, Or.inr ⟨4, 2, by decide, by decide, d_La_sumAt_17, d_La_sumAt_19, d_La_sumAt_20⟩⟩
  exact fun z hz => by
    simp only [List.mem_cons, List.not_mem_nil, or_false] at hz
    rw [hz]
    exact Or.inr ⟨by decide, _, kh_La_21, by decide⟩
theorem he_La_result_1 : HE m_La_result 7 "java/lang/IndexOutOfBoundsException" 1 := by
  refine ⟨[], _, _, _, rfl, ?_, by decide +kernel, by decide, kh_La_21, by decide, Or.inr ⟨5, 1, by decide, by decide, d_La_result_15, d_La_result_17, d_La_result_18⟩⟩
  exact fun _ h => nomatch h
theorem he_La_result_2 : HE m_La_result 7 "java/lang/IllegalArgumentException" 2 := by
  refine ⟨[_], _, _, _, rfl, ?_, by decide +kernel, by decide, kh_La_13, by decide, Or.inr ⟨5, 2, by decide, by decide, d_La_result_19, d_La_result_21, d_La_result_22⟩⟩
  exact fun z hz => by
    simp only [List.mem_cons, List.not_mem_nil, or_false] at hz
    rw [hz]
    exact Or.inr ⟨by decide, _, kh_La_21, by decide⟩
theorem he_La_resultAnew_1 : HE m_La_resultAnew 7 "java/lang/IndexOutOfBoundsException" 1 := by
  refine ⟨[], _, _, _, rfl, ?_, by decide +kernel, by decide, kh_La_21, by decide, Or.inr ⟨5, 1, by decide, by decide, d_La_resultAnew_15, d_La_resultAnew_17, d_La_resultAnew_18⟩⟩
  exact fun _ h => nomatch h
theorem he_La_resultAnew_2 : HE m_La_resultAnew 7 "java/lang/IllegalArgumentException" 2 := by
  refine ⟨[_], _, _, _, rfl, ?_, by decide +kernel, by decide, kh_La_13, by decide, Or.inr ⟨5, 2, by decide, by decide, d_La_resultAnew_19, d_La_resultAnew_21, d_La_resultAnew_22⟩⟩
  exact fun z hz => by
    simp only [List.mem_cons, List.not_mem_nil, or_false] at hz
    rw [hz]
    exact Or.inr ⟨by decide, _, kh_La_21, by decide⟩
