theorem am_okL_17 : am_Lb_17.all (fun q => am_okE am_m_L_law q.1 q.2) = true := by decide +kernel
theorem am_okL_18 : am_Lb_18.all (fun q => am_okE am_m_L_law q.1 q.2) = true := by decide +kernel
theorem am_okL_19 : am_Lb_19.all (fun q => am_okE am_m_L_law q.1 q.2) = true := by decide +kernel
theorem am_okL_20 : am_Lb_20.all (fun q => am_okE am_m_L_law q.1 q.2) = true := by decide +kernel
theorem am_okL_21 : am_Lb_21.all (fun q => am_okE am_m_L_law q.1 q.2) = true := by decide +kernel
theorem am_okL_22 : am_Lb_22.all (fun q => am_okE am_m_L_law q.1 q.2) = true := by decide +kernel
theorem am_okL_23 : am_Lb_23.all (fun q => am_okE am_m_L_law q.1 q.2) = true := by decide +kernel
theorem am_okL_24 : am_Lb_24.all (fun q => am_okE am_m_L_law q.1 q.2) = true := by decide +kernel
theorem am_okL_25 : am_Lb_25.all (fun q => am_okE am_m_L_law q.1 q.2) = true := by decide +kernel
theorem am_okL_26 : am_Lb_26.all (fun q => am_okE am_m_L_law q.1 q.2) = true := by decide +kernel
theorem am_okL_27 : am_Lb_27.all (fun q => am_okE am_m_L_law q.1 q.2) = true := by decide +kernel
theorem am_okL_28 : am_Lb_28.all (fun q => am_okE am_m_L_law q.1 q.2) = true := by decide +kernel
theorem am_okL_29 : am_Lb_29.all (fun q => am_okE am_m_L_law q.1 q.2) = true := by decide +kernel
theorem am_okL_30 : am_Lb_30.all (fun q => am_okE am_m_L_law q.1 q.2) = true := by decide +kernel
theorem am_okL_31 : am_Lb_31.all (fun q => am_okE am_m_L_law q.1 q.2) = true := by decide +kernel
theorem am_okL_32 : am_Lb_32.all (fun q => am_okE am_m_L_law q.1 q.2) = true := by decide +kernel
theorem am_okL_33 : am_Lb_33.all (fun q => am_okE am_m_L_law q.1 q.2) = true := by decide +kernel
theorem am_ok_L_law : am_okM am_m_L_law = true := by
  show List.all [am_Lb_0, am_Lb_1, am_Lb_2, am_Lb_3, am_Lb_4, am_Lb_5, am_Lb_6, am_Lb_7, am_Lb_8, am_Lb_9, am_Lb_10, am_Lb_11, am_Lb_12, am_Lb_13, am_Lb_14, am_Lb_15, am_Lb_16, am_Lb_17, am_Lb_18, am_Lb_19, am_Lb_20, am_Lb_21, am_Lb_22, am_Lb_23, am_Lb_24, am_Lb_25, am_Lb_26, am_Lb_27, am_Lb_28, am_Lb_29, am_Lb_30, am_Lb_31, am_Lb_32, am_Lb_33] (fun b => b.all (fun q => am_okE am_m_L_law q.1 q.2)) = true
  rw [List.all_eq_true]
  exact List.forall_mem_cons.mpr ⟨am_okL_0, List.forall_mem_cons.mpr ⟨am_okL_1, List.forall_mem_cons.mpr ⟨am_okL_2, List.forall_mem_cons.mpr ⟨am_okL_3, List.forall_mem_cons.mpr ⟨am_okL_4, List.forall_mem_cons.mpr ⟨am_okL_5, List.forall_mem_cons.mpr ⟨am_okL_6, List.forall_mem_cons.mpr ⟨am_okL_7, List.forall_mem_cons.mpr ⟨am_okL_8, List.forall_mem_cons.mpr ⟨am_okL_9, List.forall_mem_cons.mpr ⟨am_okL_10, List.forall_mem_cons.mpr ⟨am_okL_11, List.forall_mem_cons.mpr ⟨am_okL_12, List.forall_mem_cons.mpr ⟨am_okL_13, List.forall_mem_cons.mpr ⟨am_okL_14, List.forall_mem_cons.mpr ⟨am_okL_15, List.forall_mem_cons.mpr ⟨am_okL_16, List.forall_mem_cons.mpr ⟨am_okL_17, List.forall_mem_cons.mpr ⟨am_okL_18, List.forall_mem_cons.mpr ⟨am_okL_19, List.forall_mem_cons.mpr ⟨am_okL_20, List.forall_mem_cons.mpr ⟨am_okL_21, List.forall_mem_cons.mpr ⟨am_okL_22, List.forall_mem_cons.mpr ⟨am_okL_23, List.forall_mem_cons.mpr ⟨am_okL_24, List.forall_mem_cons.mpr ⟨am_okL_25, List.forall_mem_cons.mpr ⟨am_okL_26, List.forall_mem_cons.mpr ⟨am_okL_27, List.forall_mem_cons.mpr ⟨am_okL_28, List.forall_mem_cons.mpr ⟨am_okL_29, List.forall_mem_cons.mpr ⟨am_okL_30, List.forall_mem_cons.mpr ⟨am_okL_31, List.forall_mem_cons.mpr ⟨am_okL_32, List.forall_mem_cons.mpr ⟨am_okL_33, fun _ h => absurd h List.not_mem_nil⟩⟩⟩⟩⟩⟩⟩⟩⟩⟩⟩⟩⟩⟩⟩⟩⟩⟩⟩⟩⟩⟩⟩⟩⟩⟩⟩⟩⟩⟩⟩⟩⟩⟩
