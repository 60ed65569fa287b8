/-! The cells of the two systems. -/
abbrev CW (ad : Nat → Nat) (cI : ClassId) (kc : (Nat → Int32)) (ksv : (Nat → Int32)) (kbc : (Nat → Int32)) (kit : (Nat → Int32)) (kln : (Nat → Int32)) (ken : (Nat → Int32)) (kla : (Nat → Int32)) (kfi : (Nat → Int32)) (kea : (Nat → Int32)) (kns : Int32) (kbl : Int32) (kr0 : Int32) (kr1 : Int32) (kr2 : Int32) (kr3 : Int32) (kr4 : Int32) (kr5 : Int32) (klr : Int32) (kp0 : Int32) (kp1 : Int32) (kp2 : Int32) (kp3 : Int32) : va_W := [(ad 0, .inr (5, [.ref (ad 1), .ref (ad 2), .ref (ad 3), .ref (ad 4), .ref (ad 5)])), (ad 1, .inr (0, [.ref (ad 6), .ref (ad 7), .int kns])), (ad 2, .inr (1, [.ref (ad 8), .int kbl])), (ad 3, .inr (4, [.int kr0, .int kr1, .int kr2, .int kr3, .int kr4, .int kr5, .ref (ad 9)])), (ad 4, .inr (2, [.ref (ad 10), .int klr])), (ad 5, .inr (3, [.ref (ad 11), .ref (ad 12), .ref (ad 13), .ref (ad 14), .int kp0, .int kp1, .int kp2, .int kp3])), (ad 6, .inl (cI, 531, .inl kc)), (ad 7, .inl (cI, 3186, .inl ksv)), (ad 8, .inl (cI, 60, .inl kbc)), (ad 9, .inl (cI, 4, .inl kit)), (ad 10, .inl (cI, 60, .inl kln)), (ad 11, .inl (cI, 1024, .inl ken)), (ad 12, .inl (cI, 1024, .inl kla)), (ad 13, .inl (cI, 10, .inl kfi)), (ad 14, .inl (cI, 10, .inl kea))]
abbrev MW (bd : Nat → Nat) (cI : ClassId) (ms : (Nat → Int32)) (msv : (Nat → Int32)) (mb : (Nat → Int32)) (mf : (Nat → Int32)) (mr : (Nat → Int32)) (mt : Int32) (mn : Int32) (ml : Int32) (mat : Int32) (mw : Int32) (mm : Int32) (mh : Int64) : va_W := [(bd 0, .inr (6, [.int mt, .ref (bd 1), .ref (bd 2), .int mn, .ref (bd 3), .int ml, .ref (bd 4), .int mat, .int mw, .ref (bd 5), .int mm, .long mh])), (bd 1, .inl (cI, 531, .inl ms)), (bd 2, .inl (cI, 3186, .inl msv)), (bd 3, .inl (cI, 60, .inl mb)), (bd 4, .inl (cI, 10240, .inl mf)), (bd 5, .inl (cI, 96, .inl mr))]
theorem inr_1 : ∀ w ∈ wsL_law0_r1, w ∈ wsL_law0 := fun _ h => List.mem_append_left _ (List.mem_append_left _ (List.mem_append_left _ (List.mem_append_left _ (List.mem_append_left _ (List.mem_append_left _ (List.mem_append_left _ (List.mem_append_left _ (List.mem_append_left _ h))))))))
theorem inl_1 : ∀ w ∈ wsL_law0_r1, w ∈ wsL_law := fun w h => List.mem_append_left _ (List.mem_append_left _ (List.mem_append_left _ (inr_1 w h)))
theorem inr_2 : ∀ w ∈ wsL_law0_r2, w ∈ wsL_law0 := fun _ h => List.mem_append_left _ (List.mem_append_left _ (List.mem_append_left _ (List.mem_append_left _ (List.mem_append_left _ (List.mem_append_left _ (List.mem_append_left _ (List.mem_append_left _ (List.mem_append_right _ (List.mem_append_left _ h)))))))))
theorem inl_2 : ∀ w ∈ wsL_law0_r2, w ∈ wsL_law := fun w h => List.mem_append_left _ (List.mem_append_left _ (List.mem_append_left _ (inr_2 w h)))
theorem inr_3 : ∀ w ∈ wsL_law0_r3, w ∈ wsL_law0 := fun _ h => List.mem_append_left _ (List.mem_append_left _ (List.mem_append_left _ (List.mem_append_left _ (List.mem_append_left _ (List.mem_append_left _ (List.mem_append_left _ (List.mem_append_left _ (List.mem_append_right _ (List.mem_append_right _ (List.mem_append_left _ h))))))))))
theorem inl_3 : ∀ w ∈ wsL_law0_r3, w ∈ wsL_law := fun w h => List.mem_append_left _ (List.mem_append_left _ (List.mem_append_left _ (inr_3 w h)))
theorem inr_4 : ∀ w ∈ wsL_law0_r4, w ∈ wsL_law0 := fun _ h => List.mem_append_left _ (List.mem_append_left _ (List.mem_append_left _ (List.mem_append_left _ (List.mem_append_left _ (List.mem_append_left _ (List.mem_append_left _ (List.mem_append_left _ (List.mem_append_right _ (List.mem_append_right _ (List.mem_append_right _ (List.mem_append_left _ h)))))))))))
theorem inl_4 : ∀ w ∈ wsL_law0_r4, w ∈ wsL_law := fun w h => List.mem_append_left _ (List.mem_append_left _ (List.mem_append_left _ (inr_4 w h)))
theorem inr_5 : ∀ w ∈ wsL_law0_r5, w ∈ wsL_law0 := fun _ h => List.mem_append_left _ (List.mem_append_left _ (List.mem_append_left _ (List.mem_append_left _ (List.mem_append_left _ (List.mem_append_left _ (List.mem_append_left _ (List.mem_append_left _ (List.mem_append_right _ (List.mem_append_right _ (List.mem_append_right _ (List.mem_append_right _ (List.mem_append_left _ h))))))))))))
theorem inl_5 : ∀ w ∈ wsL_law0_r5, w ∈ wsL_law := fun w h => List.mem_append_left _ (List.mem_append_left _ (List.mem_append_left _ (inr_5 w h)))
theorem inr_6 : ∀ w ∈ wsL_law0_r6, w ∈ wsL_law0 := fun _ h => List.mem_append_left _ (List.mem_append_left _ (List.mem_append_left _ (List.mem_append_left _ (List.mem_append_left _ (List.mem_append_left _ (List.mem_append_left _ (List.mem_append_left _ (List.mem_append_right _ (List.mem_append_right _ (List.mem_append_right _ (List.mem_append_right _ (List.mem_append_right _ (List.mem_append_left _ h)))))))))))))
theorem inl_6 : ∀ w ∈ wsL_law0_r6, w ∈ wsL_law := fun w h => List.mem_append_left _ (List.mem_append_left _ (List.mem_append_left _ (inr_6 w h)))
theorem inr_7 : ∀ w ∈ wsL_law0_r7, w ∈ wsL_law0 := fun _ h => List.mem_append_left _ (List.mem_append_left _ (List.mem_append_left _ (List.mem_append_left _ (List.mem_append_left _ (List.mem_append_left _ (List.mem_append_left _ (List.mem_append_left _ (List.mem_append_right _ (List.mem_append_right _ (List.mem_append_right _ (List.mem_append_right _ (List.mem_append_right _ (List.mem_append_right _ (List.mem_append_left _ h))))))))))))))
theorem inl_7 : ∀ w ∈ wsL_law0_r7, w ∈ wsL_law := fun w h => List.mem_append_left _ (List.mem_append_left _ (List.mem_append_left _ (inr_7 w h)))
theorem inr_8 : ∀ w ∈ wsL_law0_r8, w ∈ wsL_law0 := fun _ h => List.mem_append_left _ (List.mem_append_left _ (List.mem_append_left _ (List.mem_append_left _ (List.mem_append_left _ (List.mem_append_left _ (List.mem_append_left _ (List.mem_append_left _ (List.mem_append_right _ (List.mem_append_right _ (List.mem_append_right _ (List.mem_append_right _ (List.mem_append_right _ (List.mem_append_right _ (List.mem_append_right _ (List.mem_append_left _ h)))))))))))))))
theorem inl_8 : ∀ w ∈ wsL_law0_r8, w ∈ wsL_law := fun w h => List.mem_append_left _ (List.mem_append_left _ (List.mem_append_left _ (inr_8 w h)))
theorem inr_9 : ∀ w ∈ wsL_law0_r9, w ∈ wsL_law0 := fun _ h => List.mem_append_left _ (List.mem_append_left _ (List.mem_append_left _ (List.mem_append_left _ (List.mem_append_left _ (List.mem_append_left _ (List.mem_append_left _ (List.mem_append_left _ (List.mem_append_right _ (List.mem_append_right _ (List.mem_append_right _ (List.mem_append_right _ (List.mem_append_right _ (List.mem_append_right _ (List.mem_append_right _ (List.mem_append_right _ (List.mem_append_left _ h))))))))))))))))
theorem inl_9 : ∀ w ∈ wsL_law0_r9, w ∈ wsL_law := fun w h => List.mem_append_left _ (List.mem_append_left _ (List.mem_append_left _ (inr_9 w h)))
theorem inr_10 : ∀ w ∈ wsL_law0_r10, w ∈ wsL_law0 := fun _ h => List.mem_append_left _ (List.mem_append_left _ (List.mem_append_left _ (List.mem_append_left _ (List.mem_append_left _ (List.mem_append_left _ (List.mem_append_left _ (List.mem_append_left _ (List.mem_append_right _ (List.mem_append_right _ (List.mem_append_right _ (List.mem_append_right _ (List.mem_append_right _ (List.mem_append_right _ (List.mem_append_right _ (List.mem_append_right _ (List.mem_append_right _ (List.mem_append_left _ h)))))))))))))))))
theorem inl_10 : ∀ w ∈ wsL_law0_r10, w ∈ wsL_law := fun w h => List.mem_append_left _ (List.mem_append_left _ (List.mem_append_left _ (inr_10 w h)))
theorem inr_11 : ∀ w ∈ wsL_law0_r11, w ∈ wsL_law0 := fun _ h => List.mem_append_left _ (List.mem_append_left _ (List.mem_append_left _ (List.mem_append_left _ (List.mem_append_left _ (List.mem_append_left _ (List.mem_append_left _ (List.mem_append_left _ (List.mem_append_right _ (List.mem_append_right _ (List.mem_append_right _ (List.mem_append_right _ (List.mem_append_right _ (List.mem_append_right _ (List.mem_append_right _ (List.mem_append_right _ (List.mem_append_right _ (List.mem_append_right _ (List.mem_append_left _ h))))))))))))))))))
theorem inl_11 : ∀ w ∈ wsL_law0_r11, w ∈ wsL_law := fun w h => List.mem_append_left _ (List.mem_append_left _ (List.mem_append_left _ (inr_11 w h)))
theorem inr_12 : ∀ w ∈ wsL_law0_r12, w ∈ wsL_law0 := fun _ h => List.mem_append_left _ (List.mem_append_left _ (List.mem_append_left _ (List.mem_append_left _ (List.mem_append_left _ (List.mem_append_left _ (List.mem_append_left _ (List.mem_append_left _ (List.mem_append_right _ (List.mem_append_right _ (List.mem_append_right _ (List.mem_append_right _ (List.mem_append_right _ (List.mem_append_right _ (List.mem_append_right _ (List.mem_append_right _ (List.mem_append_right _ (List.mem_append_right _ (List.mem_append_right _ (List.mem_append_left _ h)))))))))))))))))))
theorem inl_12 : ∀ w ∈ wsL_law0_r12, w ∈ wsL_law := fun w h => List.mem_append_left _ (List.mem_append_left _ (List.mem_append_left _ (inr_12 w h)))
theorem inr_13 : ∀ w ∈ wsL_law0_r13, w ∈ wsL_law0 := fun _ h => List.mem_append_left _ (List.mem_append_left _ (List.mem_append_left _ (List.mem_append_left _ (List.mem_append_left _ (List.mem_append_left _ (List.mem_append_left _ (List.mem_append_left _ (List.mem_append_right _ (List.mem_append_right _ (List.mem_append_right _ (List.mem_append_right _ (List.mem_append_right _ (List.mem_append_right _ (List.mem_append_right _ (List.mem_append_right _ (List.mem_append_right _ (List.mem_append_right _ (List.mem_append_right _ (List.mem_append_right _ (List.mem_append_left _ h))))))))))))))))))))
theorem inl_13 : ∀ w ∈ wsL_law0_r13, w ∈ wsL_law := fun w h => List.mem_append_left _ (List.mem_append_left _ (List.mem_append_left _ (inr_13 w h)))
theorem inr_14 : ∀ w ∈ wsL_law0_r14, w ∈ wsL_law0 := fun _ h => List.mem_append_left _ (List.mem_append_left _ (List.mem_append_left _ (List.mem_append_left _ (List.mem_append_left _ (List.mem_append_left _ (List.mem_append_left _ (List.mem_append_left _ (List.mem_append_right _ (List.mem_append_right _ (List.mem_append_right _ (List.mem_append_right _ (List.mem_append_right _ (List.mem_append_right _ (List.mem_append_right _ (List.mem_append_right _ (List.mem_append_right _ (List.mem_append_right _ (List.mem_append_right _ (List.mem_append_right _ (List.mem_append_right _ (List.mem_append_left _ h)))))))))))))))))))))
theorem inl_14 : ∀ w ∈ wsL_law0_r14, w ∈ wsL_law := fun w h => List.mem_append_left _ (List.mem_append_left _ (List.mem_append_left _ (inr_14 w h)))
theorem inr_15 : ∀ w ∈ wsL_law0_r15, w ∈ wsL_law0 := fun _ h => List.mem_append_left _ (List.mem_append_left _ (List.mem_append_left _ (List.mem_append_left _ (List.mem_append_left _ (List.mem_append_left _ (List.mem_append_left _ (List.mem_append_left _ (List.mem_append_right _ (List.mem_append_right _ (List.mem_append_right _ (List.mem_append_right _ (List.mem_append_right _ (List.mem_append_right _ (List.mem_append_right _ (List.mem_append_right _ (List.mem_append_right _ (List.mem_append_right _ (List.mem_append_right _ (List.mem_append_right _ (List.mem_append_right _ (List.mem_append_right _ (List.mem_append_left _ h))))))))))))))))))))))
theorem inl_15 : ∀ w ∈ wsL_law0_r15, w ∈ wsL_law := fun w h => List.mem_append_left _ (List.mem_append_left _ (List.mem_append_left _ (inr_15 w h)))
theorem inr_16 : ∀ w ∈ wsL_law0_r16, w ∈ wsL_law0 := fun _ h => List.mem_append_left _ (List.mem_append_left _ (List.mem_append_left _ (List.mem_append_left _ (List.mem_append_left _ (List.mem_append_left _ (List.mem_append_left _ (List.mem_append_left _ (List.mem_append_right _ (List.mem_append_right _ (List.mem_append_right _ (List.mem_append_right _ (List.mem_append_right _ (List.mem_append_right _ (List.mem_append_right _ (List.mem_append_right _ (List.mem_append_right _ (List.mem_append_right _ (List.mem_append_right _ (List.mem_append_right _ (List.mem_append_right _ (List.mem_append_right _ (List.mem_append_right _ (List.mem_append_left _ h)))))))))))))))))))))))
theorem inl_16 : ∀ w ∈ wsL_law0_r16, w ∈ wsL_law := fun w h => List.mem_append_left _ (List.mem_append_left _ (List.mem_append_left _ (inr_16 w h)))
theorem inr_17 : ∀ w ∈ wsL_law0_r17, w ∈ wsL_law0 := fun _ h => List.mem_append_left _ (List.mem_append_left _ (List.mem_append_left _ (List.mem_append_left _ (List.mem_append_left _ (List.mem_append_left _ (List.mem_append_left _ (List.mem_append_left _ (List.mem_append_right _ (List.mem_append_right _ (List.mem_append_right _ (List.mem_append_right _ (List.mem_append_right _ (List.mem_append_right _ (List.mem_append_right _ (List.mem_append_right _ (List.mem_append_right _ (List.mem_append_right _ (List.mem_append_right _ (List.mem_append_right _ (List.mem_append_right _ (List.mem_append_right _ (List.mem_append_right _ (List.mem_append_right _ (List.mem_append_left _ h))))))))))))))))))))))))
theorem inl_17 : ∀ w ∈ wsL_law0_r17, w ∈ wsL_law := fun w h => List.mem_append_left _ (List.mem_append_left _ (List.mem_append_left _ (inr_17 w h)))
theorem inr_18 : ∀ w ∈ wsL_law0_r18, w ∈ wsL_law0 := fun _ h => List.mem_append_left _ (List.mem_append_left _ (List.mem_append_left _ (List.mem_append_left _ (List.mem_append_left _ (List.mem_append_left _ (List.mem_append_left _ (List.mem_append_left _ (List.mem_append_right _ (List.mem_append_right _ (List.mem_append_right _ (List.mem_append_right _ (List.mem_append_right _ (List.mem_append_right _ (List.mem_append_right _ (List.mem_append_right _ (List.mem_append_right _ (List.mem_append_right _ (List.mem_append_right _ (List.mem_append_right _ (List.mem_append_right _ (List.mem_append_right _ (List.mem_append_right _ (List.mem_append_right _ (List.mem_append_right _ (List.mem_append_left _ h)))))))))))))))))))))))))
theorem inl_18 : ∀ w ∈ wsL_law0_r18, w ∈ wsL_law := fun w h => List.mem_append_left _ (List.mem_append_left _ (List.mem_append_left _ (inr_18 w h)))
theorem inr_19 : ∀ w ∈ wsL_law0_r19, w ∈ wsL_law0 := fun _ h => List.mem_append_left _ (List.mem_append_left _ (List.mem_append_left _ (List.mem_append_left _ (List.mem_append_left _ (List.mem_append_left _ (List.mem_append_left _ (List.mem_append_left _ (List.mem_append_right _ (List.mem_append_right _ (List.mem_append_right _ (List.mem_append_right _ (List.mem_append_right _ (List.mem_append_right _ (List.mem_append_right _ (List.mem_append_right _ (List.mem_append_right _ (List.mem_append_right _ (List.mem_append_right _ (List.mem_append_right _ (List.mem_append_right _ (List.mem_append_right _ (List.mem_append_right _ (List.mem_append_right _ (List.mem_append_right _ (List.mem_append_right _ (List.mem_append_left _ h))))))))))))))))))))))))))
theorem inl_19 : ∀ w ∈ wsL_law0_r19, w ∈ wsL_law := fun w h => List.mem_append_left _ (List.mem_append_left _ (List.mem_append_left _ (inr_19 w h)))
theorem inr_20 : ∀ w ∈ wsL_law0_r20, w ∈ wsL_law0 := fun _ h => List.mem_append_left _ (List.mem_append_left _ (List.mem_append_left _ (List.mem_append_left _ (List.mem_append_left _ (List.mem_append_left _ (List.mem_append_left _ (List.mem_append_left _ (List.mem_append_right _ (List.mem_append_right _ (List.mem_append_right _ (List.mem_append_right _ (List.mem_append_right _ (List.mem_append_right _ (List.mem_append_right _ (List.mem_append_right _ (List.mem_append_right _ (List.mem_append_right _ (List.mem_append_right _ (List.mem_append_right _ (List.mem_append_right _ (List.mem_append_right _ (List.mem_append_right _ (List.mem_append_right _ (List.mem_append_right _ (List.mem_append_right _ (List.mem_append_right _ (List.mem_append_left _ h)))))))))))))))))))))))))))
theorem inl_20 : ∀ w ∈ wsL_law0_r20, w ∈ wsL_law := fun w h => List.mem_append_left _ (List.mem_append_left _ (List.mem_append_left _ (inr_20 w h)))
theorem inr_21 : ∀ w ∈ wsL_law0_r21, w ∈ wsL_law0 := fun _ h => List.mem_append_left _ (List.mem_append_left _ (List.mem_append_left _ (List.mem_append_left _ (List.mem_append_left _ (List.mem_append_left _ (List.mem_append_left _ (List.mem_append_left _ (List.mem_append_right _ (List.mem_append_right _ (List.mem_append_right _ (List.mem_append_right _ (List.mem_append_right _ (List.mem_append_right _ (List.mem_append_right _ (List.mem_append_right _ (List.mem_append_right _ (List.mem_append_right _ (List.mem_append_right _ (List.mem_append_right _ (List.mem_append_right _ (List.mem_append_right _ (List.mem_append_right _ (List.mem_append_right _ (List.mem_append_right _ (List.mem_append_right _ (List.mem_append_right _ (List.mem_append_right _ (List.mem_append_left _ h))))))))))))))))))))))))))))
theorem inl_21 : ∀ w ∈ wsL_law0_r21, w ∈ wsL_law := fun w h => List.mem_append_left _ (List.mem_append_left _ (List.mem_append_left _ (inr_21 w h)))
theorem inr_22 : ∀ w ∈ wsL_law0_r22, w ∈ wsL_law0 := fun _ h => List.mem_append_left _ (List.mem_append_left _ (List.mem_append_left _ (List.mem_append_left _ (List.mem_append_left _ (List.mem_append_left _ (List.mem_append_left _ (List.mem_append_left _ (List.mem_append_right _ (List.mem_append_right _ (List.mem_append_right _ (List.mem_append_right _ (List.mem_append_right _ (List.mem_append_right _ (List.mem_append_right _ (List.mem_append_right _ (List.mem_append_right _ (List.mem_append_right _ (List.mem_append_right _ (List.mem_append_right _ (List.mem_append_right _ (List.mem_append_right _ (List.mem_append_right _ (List.mem_append_right _ (List.mem_append_right _ (List.mem_append_right _ (List.mem_append_right _ (List.mem_append_right _ (List.mem_append_right _ (List.mem_append_left _ h)))))))))))))))))))))))))))))
theorem inl_22 : ∀ w ∈ wsL_law0_r22, w ∈ wsL_law := fun w h => List.mem_append_left _ (List.mem_append_left _ (List.mem_append_left _ (inr_22 w h)))
theorem inr_23 : ∀ w ∈ wsL_law0_r23, w ∈ wsL_law0 := fun _ h => List.mem_append_left _ (List.mem_append_left _ (List.mem_append_left _ (List.mem_append_left _ (List.mem_append_left _ (List.mem_append_left _ (List.mem_append_left _ (List.mem_append_left _ (List.mem_append_right _ (List.mem_append_right _ (List.mem_append_right _ (List.mem_append_right _ (List.mem_append_right _ (List.mem_append_right _ (List.mem_append_right _ (List.mem_append_right _ (List.mem_append_right _ (List.mem_append_right _ (List.mem_append_right _ (List.mem_append_right _ (List.mem_append_right _ (List.mem_append_right _ (List.mem_append_right _ (List.mem_append_right _ (List.mem_append_right _ (List.mem_append_right _ (List.mem_append_right _ (List.mem_append_right _ (List.mem_append_right _ (List.mem_append_right _ (List.mem_append_left _ h))))))))))))))))))))))))))))))
theorem inl_23 : ∀ w ∈ wsL_law0_r23, w ∈ wsL_law := fun w h => List.mem_append_left _ (List.mem_append_left _ (List.mem_append_left _ (inr_23 w h)))
theorem inr_24 : ∀ w ∈ wsL_law0_r24, w ∈ wsL_law0 := fun _ h => List.mem_append_left _ (List.mem_append_left _ (List.mem_append_left _ (List.mem_append_left _ (List.mem_append_left _ (List.mem_append_left _ (List.mem_append_left _ (List.mem_append_left _ (List.mem_append_right _ (List.mem_append_right _ (List.mem_append_right _ (List.mem_append_right _ (List.mem_append_right _ (List.mem_append_right _ (List.mem_append_right _ (List.mem_append_right _ (List.mem_append_right _ (List.mem_append_right _ (List.mem_append_right _ (List.mem_append_right _ (List.mem_append_right _ (List.mem_append_right _ (List.mem_append_right _ (List.mem_append_right _ (List.mem_append_right _ (List.mem_append_right _ (List.mem_append_right _ (List.mem_append_right _ (List.mem_append_right _ (List.mem_append_right _ (List.mem_append_right _ (List.mem_append_left _ h)))))))))))))))))))))))))))))))
theorem inl_24 : ∀ w ∈ wsL_law0_r24, w ∈ wsL_law := fun w h => List.mem_append_left _ (List.mem_append_left _ (List.mem_append_left _ (inr_24 w h)))
theorem inr_25 : ∀ w ∈ wsL_law0_r25, w ∈ wsL_law0 := fun _ h => List.mem_append_left _ (List.mem_append_left _ (List.mem_append_left _ (List.mem_append_left _ (List.mem_append_left _ (List.mem_append_left _ (List.mem_append_left _ (List.mem_append_left _ (List.mem_append_right _ (List.mem_append_right _ (List.mem_append_right _ (List.mem_append_right _ (List.mem_append_right _ (List.mem_append_right _ (List.mem_append_right _ (List.mem_append_right _ (List.mem_append_right _ (List.mem_append_right _ (List.mem_append_right _ (List.mem_append_right _ (List.mem_append_right _ (List.mem_append_right _ (List.mem_append_right _ (List.mem_append_right _ (List.mem_append_right _ (List.mem_append_right _ (List.mem_append_right _ (List.mem_append_right _ (List.mem_append_right _ (List.mem_append_right _ (List.mem_append_right _ (List.mem_append_right _ (List.mem_append_left _ h))))))))))))))))))))))))))))))))
theorem inl_25 : ∀ w ∈ wsL_law0_r25, w ∈ wsL_law := fun w h => List.mem_append_left _ (List.mem_append_left _ (List.mem_append_left _ (inr_25 w h)))
theorem inr_26 : ∀ w ∈ wsL_law0_r26, w ∈ wsL_law0 := fun _ h => List.mem_append_left _ (List.mem_append_left _ (List.mem_append_left _ (List.mem_append_left _ (List.mem_append_left _ (List.mem_append_left _ (List.mem_append_left _ (List.mem_append_left _ (List.mem_append_right _ (List.mem_append_right _ (List.mem_append_right _ (List.mem_append_right _ (List.mem_append_right _ (List.mem_append_right _ (List.mem_append_right _ (List.mem_append_right _ (List.mem_append_right _ (List.mem_append_right _ (List.mem_append_right _ (List.mem_append_right _ (List.mem_append_right _ (List.mem_append_right _ (List.mem_append_right _ (List.mem_append_right _ (List.mem_append_right _ (List.mem_append_right _ (List.mem_append_right _ (List.mem_append_right _ (List.mem_append_right _ (List.mem_append_right _ (List.mem_append_right _ (List.mem_append_right _ (List.mem_append_right _ (List.mem_append_left _ h)))))))))))))))))))))))))))))))))
theorem inl_26 : ∀ w ∈ wsL_law0_r26, w ∈ wsL_law := fun w h => List.mem_append_left _ (List.mem_append_left _ (List.mem_append_left _ (inr_26 w h)))
theorem inr_27 : ∀ w ∈ wsL_law0_r27, w ∈ wsL_law0 := fun _ h => List.mem_append_left _ (List.mem_append_left _ (List.mem_append_left _ (List.mem_append_left _ (List.mem_append_left _ (List.mem_append_left _ (List.mem_append_left _ (List.mem_append_left _ (List.mem_append_right _ (List.mem_append_right _ (List.mem_append_right _ (List.mem_append_right _ (List.mem_append_right _ (List.mem_append_right _ (List.mem_append_right _ (List.mem_append_right _ (List.mem_append_right _ (List.mem_append_right _ (List.mem_append_right _ (List.mem_append_right _ (List.mem_append_right _ (List.mem_append_right _ (List.mem_append_right _ (List.mem_append_right _ (List.mem_append_right _ (List.mem_append_right _ (List.mem_append_right _ (List.mem_append_right _ (List.mem_append_right _ (List.mem_append_right _ (List.mem_append_right _ (List.mem_append_right _ (List.mem_append_right _ (List.mem_append_right _ (List.mem_append_left _ h))))))))))))))))))))))))))))))))))
theorem inl_27 : ∀ w ∈ wsL_law0_r27, w ∈ wsL_law := fun w h => List.mem_append_left _ (List.mem_append_left _ (List.mem_append_left _ (inr_27 w h)))
theorem inr_28 : ∀ w ∈ wsL_law0_r28, w ∈ wsL_law0 := fun _ h => List.mem_append_left _ (List.mem_append_left _ (List.mem_append_left _ (List.mem_append_left _ (List.mem_append_left _ (List.mem_append_left _ (List.mem_append_left _ (List.mem_append_left _ (List.mem_append_right _ (List.mem_append_right _ (List.mem_append_right _ (List.mem_append_right _ (List.mem_append_right _ (List.mem_append_right _ (List.mem_append_right _ (List.mem_append_right _ (List.mem_append_right _ (List.mem_append_right _ (List.mem_append_right _ (List.mem_append_right _ (List.mem_append_right _ (List.mem_append_right _ (List.mem_append_right _ (List.mem_append_right _ (List.mem_append_right _ (List.mem_append_right _ (List.mem_append_right _ (List.mem_append_right _ (List.mem_append_right _ (List.mem_append_right _ (List.mem_append_right _ (List.mem_append_right _ (List.mem_append_right _ (List.mem_append_right _ (List.mem_append_right _ (List.mem_append_left _ h)))))))))))))))))))))))))))))))))))
theorem inl_28 : ∀ w ∈ wsL_law0_r28, w ∈ wsL_law := fun w h => List.mem_append_left _ (List.mem_append_left _ (List.mem_append_left _ (inr_28 w h)))
theorem inr_29 : ∀ w ∈ wsL_law0_r29, w ∈ wsL_law0 := fun _ h => List.mem_append_left _ (List.mem_append_left _ (List.mem_append_left _ (List.mem_append_left _ (List.mem_append_left _ (List.mem_append_left _ (List.mem_append_left _ (List.mem_append_left _ (List.mem_append_right _ (List.mem_append_right _ (List.mem_append_right _ (List.mem_append_right _ (List.mem_append_right _ (List.mem_append_right _ (List.mem_append_right _ (List.mem_append_right _ (List.mem_append_right _ (List.mem_append_right _ (List.mem_append_right _ (List.mem_append_right _ (List.mem_append_right _ (List.mem_append_right _ (List.mem_append_right _ (List.mem_append_right _ (List.mem_append_right _ (List.mem_append_right _ (List.mem_append_right _ (List.mem_append_right _ (List.mem_append_right _ (List.mem_append_right _ (List.mem_append_right _ (List.mem_append_right _ (List.mem_append_right _ (List.mem_append_right _ (List.mem_append_right _ (List.mem_append_right _ (List.mem_append_left _ h))))))))))))))))))))))))))))))))))))
theorem inl_29 : ∀ w ∈ wsL_law0_r29, w ∈ wsL_law := fun w h => List.mem_append_left _ (List.mem_append_left _ (List.mem_append_left _ (inr_29 w h)))
theorem inr_30 : ∀ w ∈ wsL_law0_r30, w ∈ wsL_law0 := fun _ h => List.mem_append_left _ (List.mem_append_left _ (List.mem_append_left _ (List.mem_append_left _ (List.mem_append_left _ (List.mem_append_left _ (List.mem_append_left _ (List.mem_append_left _ (List.mem_append_right _ (List.mem_append_right _ (List.mem_append_right _ (List.mem_append_right _ (List.mem_append_right _ (List.mem_append_right _ (List.mem_append_right _ (List.mem_append_right _ (List.mem_append_right _ (List.mem_append_right _ (List.mem_append_right _ (List.mem_append_right _ (List.mem_append_right _ (List.mem_append_right _ (List.mem_append_right _ (List.mem_append_right _ (List.mem_append_right _ (List.mem_append_right _ (List.mem_append_right _ (List.mem_append_right _ (List.mem_append_right _ (List.mem_append_right _ (List.mem_append_right _ (List.mem_append_right _ (List.mem_append_right _ (List.mem_append_right _ (List.mem_append_right _ (List.mem_append_right _ (List.mem_append_right _ (List.mem_append_left _ h)))))))))))))))))))))))))))))))))))))
theorem inl_30 : ∀ w ∈ wsL_law0_r30, w ∈ wsL_law := fun w h => List.mem_append_left _ (List.mem_append_left _ (List.mem_append_left _ (inr_30 w h)))
theorem inr_31 : ∀ w ∈ wsL_law0_r31, w ∈ wsL_law0 := fun _ h => List.mem_append_left _ (List.mem_append_left _ (List.mem_append_left _ (List.mem_append_left _ (List.mem_append_left _ (List.mem_append_left _ (List.mem_append_left _ (List.mem_append_left _ (List.mem_append_right _ (List.mem_append_right _ (List.mem_append_right _ (List.mem_append_right _ (List.mem_append_right _ (List.mem_append_right _ (List.mem_append_right _ (List.mem_append_right _ (List.mem_append_right _ (List.mem_append_right _ (List.mem_append_right _ (List.mem_append_right _ (List.mem_append_right _ (List.mem_append_right _ (List.mem_append_right _ (List.mem_append_right _ (List.mem_append_right _ (List.mem_append_right _ (List.mem_append_right _ (List.mem_append_right _ (List.mem_append_right _ (List.mem_append_right _ (List.mem_append_right _ (List.mem_append_right _ (List.mem_append_right _ (List.mem_append_right _ (List.mem_append_right _ (List.mem_append_right _ (List.mem_append_right _ (List.mem_append_right _ (List.mem_append_left _ h))))))))))))))))))))))))))))))))))))))
theorem inl_31 : ∀ w ∈ wsL_law0_r31, w ∈ wsL_law := fun w h => List.mem_append_left _ (List.mem_append_left _ (List.mem_append_left _ (inr_31 w h)))
theorem inr_32 : ∀ w ∈ wsL_law0_r32, w ∈ wsL_law0 := fun _ h => List.mem_append_left _ (List.mem_append_left _ (List.mem_append_left _ (List.mem_append_left _ (List.mem_append_left _ (List.mem_append_left _ (List.mem_append_left _ (List.mem_append_left _ (List.mem_append_right _ (List.mem_append_right _ (List.mem_append_right _ (List.mem_append_right _ (List.mem_append_right _ (List.mem_append_right _ (List.mem_append_right _ (List.mem_append_right _ (List.mem_append_right _ (List.mem_append_right _ (List.mem_append_right _ (List.mem_append_right _ (List.mem_append_right _ (List.mem_append_right _ (List.mem_append_right _ (List.mem_append_right _ (List.mem_append_right _ (List.mem_append_right _ (List.mem_append_right _ (List.mem_append_right _ (List.mem_append_right _ (List.mem_append_right _ (List.mem_append_right _ (List.mem_append_right _ (List.mem_append_right _ (List.mem_append_right _ (List.mem_append_right _ (List.mem_append_right _ (List.mem_append_right _ (List.mem_append_right _ (List.mem_append_right _ (List.mem_append_left _ h)))))))))))))))))))))))))))))))))))))))
theorem inl_32 : ∀ w ∈ wsL_law0_r32, w ∈ wsL_law := fun w h => List.mem_append_left _ (List.mem_append_left _ (List.mem_append_left _ (inr_32 w h)))
theorem inr_33 : ∀ w ∈ wsL_law0_r33, w ∈ wsL_law0 := fun _ h => List.mem_append_left _ (List.mem_append_left _ (List.mem_append_left _ (List.mem_append_left _ (List.mem_append_left _ (List.mem_append_left _ (List.mem_append_left _ (List.mem_append_left _ (List.mem_append_right _ (List.mem_append_right _ (List.mem_append_right _ (List.mem_append_right _ (List.mem_append_right _ (List.mem_append_right _ (List.mem_append_right _ (List.mem_append_right _ (List.mem_append_right _ (List.mem_append_right _ (List.mem_append_right _ (List.mem_append_right _ (List.mem_append_right _ (List.mem_append_right _ (List.mem_append_right _ (List.mem_append_right _ (List.mem_append_right _ (List.mem_append_right _ (List.mem_append_right _ (List.mem_append_right _ (List.mem_append_right _ (List.mem_append_right _ (List.mem_append_right _ (List.mem_append_right _ (List.mem_append_right _ (List.mem_append_right _ (List.mem_append_right _ (List.mem_append_right _ (List.mem_append_right _ (List.mem_append_right _ (List.mem_append_right _ (List.mem_append_right _ (List.mem_append_left _ h))))))))))))))))))))))))))))))))))))))))
theorem inl_33 : ∀ w ∈ wsL_law0_r33, w ∈ wsL_law := fun w h => List.mem_append_left _ (List.mem_append_left _ (List.mem_append_left _ (inr_33 w h)))
theorem inr_34 : ∀ w ∈ wsL_law0_r34, w ∈ wsL_law0 := fun _ h => List.mem_append_left _ (List.mem_append_left _ (List.mem_append_left _ (List.mem_append_left _ (List.mem_append_left _ (List.mem_append_left _ (List.mem_append_left _ (List.mem_append_left _ (List.mem_append_right _ (List.mem_append_right _ (List.mem_append_right _ (List.mem_append_right _ (List.mem_append_right _ (List.mem_append_right _ (List.mem_append_right _ (List.mem_append_right _ (List.mem_append_right _ (List.mem_append_right _ (List.mem_append_right _ (List.mem_append_right _ (List.mem_append_right _ (List.mem_append_right _ (List.mem_append_right _ (List.mem_append_right _ (List.mem_append_right _ (List.mem_append_right _ (List.mem_append_right _ (List.mem_append_right _ (List.mem_append_right _ (List.mem_append_right _ (List.mem_append_right _ (List.mem_append_right _ (List.mem_append_right _ (List.mem_append_right _ (List.mem_append_right _ (List.mem_append_right _ (List.mem_append_right _ (List.mem_append_right _ (List.mem_append_right _ (List.mem_append_right _ (List.mem_append_right _ (List.mem_append_left _ h)))))))))))))))))))))))))))))))))))))))))
theorem inl_34 : ∀ w ∈ wsL_law0_r34, w ∈ wsL_law := fun w h => List.mem_append_left _ (List.mem_append_left _ (List.mem_append_left _ (inr_34 w h)))
theorem inr_35 : ∀ w ∈ wsL_law0_r35, w ∈ wsL_law0 := fun _ h => List.mem_append_left _ (List.mem_append_left _ (List.mem_append_left _ (List.mem_append_left _ (List.mem_append_left _ (List.mem_append_left _ (List.mem_append_left _ (List.mem_append_left _ (List.mem_append_right _ (List.mem_append_right _ (List.mem_append_right _ (List.mem_append_right _ (List.mem_append_right _ (List.mem_append_right _ (List.mem_append_right _ (List.mem_append_right _ (List.mem_append_right _ (List.mem_append_right _ (List.mem_append_right _ (List.mem_append_right _ (List.mem_append_right _ (List.mem_append_right _ (List.mem_append_right _ (List.mem_append_right _ (List.mem_append_right _ (List.mem_append_right _ (List.mem_append_right _ (List.mem_append_right _ (List.mem_append_right _ (List.mem_append_right _ (List.mem_append_right _ (List.mem_append_right _ (List.mem_append_right _ (List.mem_append_right _ (List.mem_append_right _ (List.mem_append_right _ (List.mem_append_right _ (List.mem_append_right _ (List.mem_append_right _ (List.mem_append_right _ (List.mem_append_right _ (List.mem_append_right _ (List.mem_append_left _ h))))))))))))))))))))))))))))))))))))))))))
theorem inl_35 : ∀ w ∈ wsL_law0_r35, w ∈ wsL_law := fun w h => List.mem_append_left _ (List.mem_append_left _ (List.mem_append_left _ (inr_35 w h)))
theorem inr_36 : ∀ w ∈ wsL_law0_r36, w ∈ wsL_law0 := fun _ h => List.mem_append_left _ (List.mem_append_left _ (List.mem_append_left _ (List.mem_append_left _ (List.mem_append_left _ (List.mem_append_left _ (List.mem_append_left _ (List.mem_append_left _ (List.mem_append_right _ (List.mem_append_right _ (List.mem_append_right _ (List.mem_append_right _ (List.mem_append_right _ (List.mem_append_right _ (List.mem_append_right _ (List.mem_append_right _ (List.mem_append_right _ (List.mem_append_right _ (List.mem_append_right _ (List.mem_append_right _ (List.mem_append_right _ (List.mem_append_right _ (List.mem_append_right _ (List.mem_append_right _ (List.mem_append_right _ (List.mem_append_right _ (List.mem_append_right _ (List.mem_append_right _ (List.mem_append_right _ (List.mem_append_right _ (List.mem_append_right _ (List.mem_append_right _ (List.mem_append_right _ (List.mem_append_right _ (List.mem_append_right _ (List.mem_append_right _ (List.mem_append_right _ (List.mem_append_right _ (List.mem_append_right _ (List.mem_append_right _ (List.mem_append_right _ (List.mem_append_right _ (List.mem_append_right _ (List.mem_append_left _ h)))))))))))))))))))))))))))))))))))))))))))
theorem inl_36 : ∀ w ∈ wsL_law0_r36, w ∈ wsL_law := fun w h => List.mem_append_left _ (List.mem_append_left _ (List.mem_append_left _ (inr_36 w h)))
theorem inr_37 : ∀ w ∈ wsL_law0_r37, w ∈ wsL_law0 := fun _ h => List.mem_append_left _ (List.mem_append_left _ (List.mem_append_left _ (List.mem_append_left _ (List.mem_append_left _ (List.mem_append_left _ (List.mem_append_left _ (List.mem_append_left _ (List.mem_append_right _ (List.mem_append_right _ (List.mem_append_right _ (List.mem_append_right _ (List.mem_append_right _ (List.mem_append_right _ (List.mem_append_right _ (List.mem_append_right _ (List.mem_append_right _ (List.mem_append_right _ (List.mem_append_right _ (List.mem_append_right _ (List.mem_append_right _ (List.mem_append_right _ (List.mem_append_right _ (List.mem_append_right _ (List.mem_append_right _ (List.mem_append_right _ (List.mem_append_right _ (List.mem_append_right _ (List.mem_append_right _ (List.mem_append_right _ (List.mem_append_right _ (List.mem_append_right _ (List.mem_append_right _ (List.mem_append_right _ (List.mem_append_right _ (List.mem_append_right _ (List.mem_append_right _ (List.mem_append_right _ (List.mem_append_right _ (List.mem_append_right _ (List.mem_append_right _ (List.mem_append_right _ (List.mem_append_right _ (List.mem_append_right _ (List.mem_append_left _ h))))))))))))))))))))))))))))))))))))))))))))
theorem inl_37 : ∀ w ∈ wsL_law0_r37, w ∈ wsL_law := fun w h => List.mem_append_left _ (List.mem_append_left _ (List.mem_append_left _ (inr_37 w h)))
theorem inr_38 : ∀ w ∈ wsL_law0_r38, w ∈ wsL_law0 := fun _ h => List.mem_append_left _ (List.mem_append_left _ (List.mem_append_left _ (List.mem_append_left _ (List.mem_append_left _ (List.mem_append_left _ (List.mem_append_left _ (List.mem_append_left _ (List.mem_append_right _ (List.mem_append_right _ (List.mem_append_right _ (List.mem_append_right _ (List.mem_append_right _ (List.mem_append_right _ (List.mem_append_right _ (List.mem_append_right _ (List.mem_append_right _ (List.mem_append_right _ (List.mem_append_right _ (List.mem_append_right _ (List.mem_append_right _ (List.mem_append_right _ (List.mem_append_right _ (List.mem_append_right _ (List.mem_append_right _ (List.mem_append_right _ (List.mem_append_right _ (List.mem_append_right _ (List.mem_append_right _ (List.mem_append_right _ (List.mem_append_right _ (List.mem_append_right _ (List.mem_append_right _ (List.mem_append_right _ (List.mem_append_right _ (List.mem_append_right _ (List.mem_append_right _ (List.mem_append_right _ (List.mem_append_right _ (List.mem_append_right _ (List.mem_append_right _ (List.mem_append_right _ (List.mem_append_right _ (List.mem_append_right _ (List.mem_append_right _ (List.mem_append_left _ h)))))))))))))))))))))))))))))))))))))))))))))
theorem inl_38 : ∀ w ∈ wsL_law0_r38, w ∈ wsL_law := fun w h => List.mem_append_left _ (List.mem_append_left _ (List.mem_append_left _ (inr_38 w h)))
theorem inr_39 : ∀ w ∈ wsL_law0_r39, w ∈ wsL_law0 := fun _ h => List.mem_append_left _ (List.mem_append_left _ (List.mem_append_left _ (List.mem_append_left _ (List.mem_append_left _ (List.mem_append_left _ (List.mem_append_left _ (List.mem_append_left _ (List.mem_append_right _ (List.mem_append_right _ (List.mem_append_right _ (List.mem_append_right _ (List.mem_append_right _ (List.mem_append_right _ (List.mem_append_right _ (List.mem_append_right _ (List.mem_append_right _ (List.mem_append_right _ (List.mem_append_right _ (List.mem_append_right _ (List.mem_append_right _ (List.mem_append_right _ (List.mem_append_right _ (List.mem_append_right _ (List.mem_append_right _ (List.mem_append_right _ (List.mem_append_right _ (List.mem_append_right _ (List.mem_append_right _ (List.mem_append_right _ (List.mem_append_right _ (List.mem_append_right _ (List.mem_append_right _ (List.mem_append_right _ (List.mem_append_right _ (List.mem_append_right _ (List.mem_append_right _ (List.mem_append_right _ (List.mem_append_right _ (List.mem_append_right _ (List.mem_append_right _ (List.mem_append_right _ (List.mem_append_right _ (List.mem_append_right _ (List.mem_append_right _ (List.mem_append_right _ (List.mem_append_left _ h))))))))))))))))))))))))))))))))))))))))))))))
theorem inl_39 : ∀ w ∈ wsL_law0_r39, w ∈ wsL_law := fun w h => List.mem_append_left _ (List.mem_append_left _ (List.mem_append_left _ (inr_39 w h)))
theorem inr_40 : ∀ w ∈ wsL_law0_r40, w ∈ wsL_law0 := fun _ h => List.mem_append_left _ (List.mem_append_left _ (List.mem_append_left _ (List.mem_append_left _ (List.mem_append_left _ (List.mem_append_left _ (List.mem_append_left _ (List.mem_append_left _ (List.mem_append_right _ (List.mem_append_right _ (List.mem_append_right _ (List.mem_append_right _ (List.mem_append_right _ (List.mem_append_right _ (List.mem_append_right _ (List.mem_append_right _ (List.mem_append_right _ (List.mem_append_right _ (List.mem_append_right _ (List.mem_append_right _ (List.mem_append_right _ (List.mem_append_right _ (List.mem_append_right _ (List.mem_append_right _ (List.mem_append_right _ (List.mem_append_right _ (List.mem_append_right _ (List.mem_append_right _ (List.mem_append_right _ (List.mem_append_right _ (List.mem_append_right _ (List.mem_append_right _ (List.mem_append_right _ (List.mem_append_right _ (List.mem_append_right _ (List.mem_append_right _ (List.mem_append_right _ (List.mem_append_right _ (List.mem_append_right _ (List.mem_append_right _ (List.mem_append_right _ (List.mem_append_right _ (List.mem_append_right _ (List.mem_append_right _ (List.mem_append_right _ (List.mem_append_right _ (List.mem_append_right _ (List.mem_append_left _ h)))))))))))))))))))))))))))))))))))))))))))))))
theorem inl_40 : ∀ w ∈ wsL_law0_r40, w ∈ wsL_law := fun w h => List.mem_append_left _ (List.mem_append_left _ (List.mem_append_left _ (inr_40 w h)))
theorem inr_41 : ∀ w ∈ wsL_law0_r41, w ∈ wsL_law0 := fun _ h => List.mem_append_left _ (List.mem_append_left _ (List.mem_append_left _ (List.mem_append_left _ (List.mem_append_left _ (List.mem_append_left _ (List.mem_append_left _ (List.mem_append_left _ (List.mem_append_right _ (List.mem_append_right _ (List.mem_append_right _ (List.mem_append_right _ (List.mem_append_right _ (List.mem_append_right _ (List.mem_append_right _ (List.mem_append_right _ (List.mem_append_right _ (List.mem_append_right _ (List.mem_append_right _ (List.mem_append_right _ (List.mem_append_right _ (List.mem_append_right _ (List.mem_append_right _ (List.mem_append_right _ (List.mem_append_right _ (List.mem_append_right _ (List.mem_append_right _ (List.mem_append_right _ (List.mem_append_right _ (List.mem_append_right _ (List.mem_append_right _ (List.mem_append_right _ (List.mem_append_right _ (List.mem_append_right _ (List.mem_append_right _ (List.mem_append_right _ (List.mem_append_right _ (List.mem_append_right _ (List.mem_append_right _ (List.mem_append_right _ (List.mem_append_right _ (List.mem_append_right _ (List.mem_append_right _ (List.mem_append_right _ (List.mem_append_right _ (List.mem_append_right _ (List.mem_append_right _ (List.mem_append_right _ (List.mem_append_left _ h))))))))))))))))))))))))))))))))))))))))))))))))
theorem inl_41 : ∀ w ∈ wsL_law0_r41, w ∈ wsL_law := fun w h => List.mem_append_left _ (List.mem_append_left _ (List.mem_append_left _ (inr_41 w h)))
theorem inr_42 : ∀ w ∈ wsL_law0_r42, w ∈ wsL_law0 := fun _ h => List.mem_append_left _ (List.mem_append_left _ (List.mem_append_left _ (List.mem_append_left _ (List.mem_append_left _ (List.mem_append_left _ (List.mem_append_left _ (List.mem_append_left _ (List.mem_append_right _ (List.mem_append_right _ (List.mem_append_right _ (List.mem_append_right _ (List.mem_append_right _ (List.mem_append_right _ (List.mem_append_right _ (List.mem_append_right _ (List.mem_append_right _ (List.mem_append_right _ (List.mem_append_right _ (List.mem_append_right _ (List.mem_append_right _ (List.mem_append_right _ (List.mem_append_right _ (List.mem_append_right _ (List.mem_append_right _ (List.mem_append_right _ (List.mem_append_right _ (List.mem_append_right _ (List.mem_append_right _ (List.mem_append_right _ (List.mem_append_right _ (List.mem_append_right _ (List.mem_append_right _ (List.mem_append_right _ (List.mem_append_right _ (List.mem_append_right _ (List.mem_append_right _ (List.mem_append_right _ (List.mem_append_right _ (List.mem_append_right _ (List.mem_append_right _ (List.mem_append_right _ (List.mem_append_right _ (List.mem_append_right _ (List.mem_append_right _ (List.mem_append_right _ (List.mem_append_right _ (List.mem_append_right _ (List.mem_append_right _ (h)))))))))))))))))))))))))))))))))))))))))))))))))
theorem inl_42 : ∀ w ∈ wsL_law0_r42, w ∈ wsL_law := fun w h => List.mem_append_left _ (List.mem_append_left _ (List.mem_append_left _ (inr_42 w h)))
theorem wd_2 : Cond.initialized RX8 ∈ wsL_law := inl_1 _ (List.mem_of_getElem? (i := 2) rfl)
theorem wd_5 : Cond.initialized RX9 ∈ wsL_law := inl_1 _ (List.mem_of_getElem? (i := 5) rfl)
theorem wd_15 : Cond.initialized RX0 ∈ wsL_law := inl_1 _ (List.mem_of_getElem? (i := 15) rfl)
theorem wd_16 : Cond.fieldLink RX8 12 "NightDiary" "book" "LNightDiary$Book;" ∈ wsL_law := inl_1 _ (List.mem_of_getElem? (i := 16) rfl)
theorem wd_19 : Cond.initialized RX1 ∈ wsL_law := inl_1 _ (List.mem_of_getElem? (i := 19) rfl)
theorem wd_20 : Cond.fieldLink RX8 19 "NightDiary" "buffer" "LNightDiary$Buffer;" ∈ wsL_law := inl_1 _ (List.mem_of_getElem? (i := 20) rfl)
theorem wd_23 : Cond.initialized RX6 ∈ wsL_law := inl_1 _ (List.mem_of_getElem? (i := 23) rfl)
theorem wd_24 : Cond.fieldLink RX8 26 "NightDiary" "reader" "LNightDiary$Reader;" ∈ wsL_law := inl_2 _ (List.mem_of_getElem? (i := 0) rfl)
theorem wd_27 : Cond.initialized RX4 ∈ wsL_law := inl_2 _ (List.mem_of_getElem? (i := 3) rfl)
theorem wd_28 : Cond.fieldLink RX8 33 "NightDiary" "lines" "LNightDiary$Lines;" ∈ wsL_law := inl_2 _ (List.mem_of_getElem? (i := 4) rfl)
theorem wd_31 : Cond.initialized RX5 ∈ wsL_law := inl_2 _ (List.mem_of_getElem? (i := 7) rfl)
theorem wd_32 : Cond.fieldLink RX8 40 "NightDiary" "longestRow" "LNightDiary$LongestRow;" ∈ wsL_law := inl_2 _ (List.mem_of_getElem? (i := 8) rfl)
theorem wd_37 : Cond.fieldLink RX0 11 "NightDiary$Book" "cells" "[I" ∈ wsL_law := inl_2 _ (List.mem_of_getElem? (i := 13) rfl)
theorem wd_38 : Cond.fieldLink RX0 15 "NightDiary$Book" "saved" "[I" ∈ wsL_law := inl_2 _ (List.mem_of_getElem? (i := 14) rfl)
theorem wd_39 : Cond.fieldLink RX0 18 "NightDiary$Book" "savedStates" "I" ∈ wsL_law := inl_2 _ (List.mem_of_getElem? (i := 15) rfl)
theorem wd_43 : Cond.fieldLink RX1 9 "NightDiary$Buffer" "codes" "[I" ∈ wsL_law := inl_2 _ (List.mem_of_getElem? (i := 19) rfl)
theorem wd_44 : Cond.fieldLink RX1 15 "NightDiary$Buffer" "length" "I" ∈ wsL_law := inl_2 _ (List.mem_of_getElem? (i := 20) rfl)
theorem wd_48 : Cond.fieldLink RX6 11 "NightDiary$Reader" "phase" "I" ∈ wsL_law := inl_3 _ (List.mem_of_getElem? (i := 0) rfl)
theorem wd_49 : Cond.fieldLink RX6 15 "NightDiary$Reader" "number" "I" ∈ wsL_law := inl_3 _ (List.mem_of_getElem? (i := 1) rfl)
theorem wd_50 : Cond.fieldLink RX6 18 "NightDiary$Reader" "digits" "I" ∈ wsL_law := inl_3 _ (List.mem_of_getElem? (i := 2) rfl)
theorem wd_51 : Cond.fieldLink RX6 21 "NightDiary$Reader" "time" "I" ∈ wsL_law := inl_3 _ (List.mem_of_getElem? (i := 3) rfl)
theorem wd_52 : Cond.fieldLink RX6 24 "NightDiary$Reader" "shop" "I" ∈ wsL_law := inl_3 _ (List.mem_of_getElem? (i := 4) rfl)
theorem wd_53 : Cond.fieldLink RX6 27 "NightDiary$Reader" "items" "I" ∈ wsL_law := inl_3 _ (List.mem_of_getElem? (i := 5) rfl)
theorem wd_54 : Cond.fieldLink RX6 30 "NightDiary$Reader" "item" "[I" ∈ wsL_law := inl_3 _ (List.mem_of_getElem? (i := 6) rfl)
theorem wd_58 : Cond.fieldLink RX4 9 "NightDiary$Lines" "slots" "[I" ∈ wsL_law := inl_3 _ (List.mem_of_getElem? (i := 10) rfl)
theorem wd_59 : Cond.fieldLink RX4 15 "NightDiary$Lines" "receipts" "I" ∈ wsL_law := inl_3 _ (List.mem_of_getElem? (i := 11) rfl)
theorem wd_63 : Cond.fieldLink RX5 11 "NightDiary$LongestRow" "ends" "[I" ∈ wsL_law := inl_3 _ (List.mem_of_getElem? (i := 15) rfl)
theorem wd_64 : Cond.fieldLink RX5 15 "NightDiary$LongestRow" "latest" "[I" ∈ wsL_law := inl_3 _ (List.mem_of_getElem? (i := 16) rfl)
theorem wd_65 : Cond.fieldLink RX5 18 "NightDiary$LongestRow" "fitting" "[I" ∈ wsL_law := inl_3 _ (List.mem_of_getElem? (i := 17) rfl)
theorem wd_66 : Cond.fieldLink RX5 21 "NightDiary$LongestRow" "earliest" "[I" ∈ wsL_law := inl_3 _ (List.mem_of_getElem? (i := 18) rfl)
theorem wd_67 : Cond.fieldLink RX5 24 "NightDiary$LongestRow" "pieces" "I" ∈ wsL_law := inl_3 _ (List.mem_of_getElem? (i := 19) rfl)
theorem wd_68 : Cond.fieldLink RX5 28 "NightDiary$LongestRow" "length" "I" ∈ wsL_law := inl_3 _ (List.mem_of_getElem? (i := 20) rfl)
theorem wd_69 : Cond.fieldLink RX5 31 "NightDiary$LongestRow" "first" "I" ∈ wsL_law := inl_3 _ (List.mem_of_getElem? (i := 21) rfl)
theorem wd_70 : Cond.fieldLink RX5 34 "NightDiary$LongestRow" "last" "I" ∈ wsL_law := inl_3 _ (List.mem_of_getElem? (i := 22) rfl)
theorem wd_75 : Cond.fieldLink RX9 7 "NightDiaryModel" "s" "[I" ∈ wsL_law := inl_4 _ (List.mem_of_getElem? (i := 3) rfl)
theorem wd_76 : Cond.fieldLink RX9 13 "NightDiaryModel" "saved" "[I" ∈ wsL_law := inl_4 _ (List.mem_of_getElem? (i := 4) rfl)
theorem wd_77 : Cond.fieldLink RX9 16 "NightDiaryModel" "buffer" "[I" ∈ wsL_law := inl_4 _ (List.mem_of_getElem? (i := 5) rfl)
theorem wd_78 : Cond.fieldLink RX9 19 "NightDiaryModel" "firsts" "[I" ∈ wsL_law := inl_4 _ (List.mem_of_getElem? (i := 6) rfl)
theorem wd_79 : Cond.fieldLink RX9 22 "NightDiaryModel" "read" "[I" ∈ wsL_law := inl_4 _ (List.mem_of_getElem? (i := 7) rfl)
theorem wd_80 : Cond.fieldLink RX9 25 "NightDiaryModel" "thrown" "I" ∈ wsL_law := inl_4 _ (List.mem_of_getElem? (i := 8) rfl)
theorem wd_91 : Cond.classLink RX8 48 "java/lang/IllegalArgumentException" ∈ wsL_law := inl_4 _ (List.mem_of_getElem? (i := 19) rfl)
theorem wd_92 : Cond.initialized "java/lang/IllegalArgumentException" ∈ wsL_law := inl_4 _ (List.mem_of_getElem? (i := 20) rfl)
theorem wd_93 : Cond.classLink RX8 59 "java/lang/IllegalStateException" ∈ wsL_law := inl_4 _ (List.mem_of_getElem? (i := 21) rfl)
theorem wd_94 : Cond.initialized "java/lang/IllegalStateException" ∈ wsL_law := inl_4 _ (List.mem_of_getElem? (i := 22) rfl)
theorem wd_95 : Cond.methodLink RX8 44 yX8_isIn ∈ wsL_law := inl_4 _ (List.mem_of_getElem? (i := 23) rfl)
theorem wd_96 : Cond.static yX8_isIn ∈ wsL_law := inl_5 _ (List.mem_of_getElem? (i := 0) rfl)
theorem wd_97 : Cond.code yX8_isIn cX8_isIn 2 (some .boolean) ∈ wsL_law := inl_5 _ (List.mem_of_getElem? (i := 1) rfl)
theorem wd_98 : Cond.methodLink RX8 55 yX0_pieces ∈ wsL_law := inl_5 _ (List.mem_of_getElem? (i := 2) rfl)
theorem wd_99 : Cond.instanceMethod yX0_pieces ∈ wsL_law := inl_5 _ (List.mem_of_getElem? (i := 3) rfl)
theorem wd_100 : Cond.selects RX0 yX0_pieces yX0_pieces ∈ wsL_law := inl_5 _ (List.mem_of_getElem? (i := 4) rfl)
theorem wd_101 : Cond.code yX0_pieces cX0_pieces 1 (some .int) ∈ wsL_law := inl_5 _ (List.mem_of_getElem? (i := 5) rfl)
theorem wd_102 : Cond.methodLink RX0 28 yX0_get ∈ wsL_law := inl_5 _ (List.mem_of_getElem? (i := 6) rfl)
theorem wd_103 : Cond.instanceMethod yX0_get ∈ wsL_law := inl_5 _ (List.mem_of_getElem? (i := 7) rfl)
theorem wd_104 : Cond.selects RX0 yX0_get yX0_get ∈ wsL_law := inl_5 _ (List.mem_of_getElem? (i := 8) rfl)
theorem wd_105 : Cond.code yX0_get cX0_get 2 (some .int) ∈ wsL_law := inl_5 _ (List.mem_of_getElem? (i := 9) rfl)
theorem wd_106 : Cond.methodLink RX8 64 yX0_save ∈ wsL_law := inl_5 _ (List.mem_of_getElem? (i := 10) rfl)
theorem wd_107 : Cond.instanceMethod yX0_save ∈ wsL_law := inl_5 _ (List.mem_of_getElem? (i := 11) rfl)
theorem wd_108 : Cond.selects RX0 yX0_save yX0_save ∈ wsL_law := inl_5 _ (List.mem_of_getElem? (i := 12) rfl)
theorem wd_109 : Cond.code yX0_save cX0_save 1 none ∈ wsL_law := inl_5 _ (List.mem_of_getElem? (i := 13) rfl)
theorem wd_110 : Cond.methodLink RX0 22 arraycopyName ∈ wsL_law := inl_5 _ (List.mem_of_getElem? (i := 14) rfl)
theorem wd_111 : Cond.native arraycopyName ∈ wsL_law := inl_5 _ (List.mem_of_getElem? (i := 15) rfl)
theorem wd_112 : Cond.static arraycopyName ∈ wsL_law := inl_5 _ (List.mem_of_getElem? (i := 16) rfl)
theorem wd_113 : Cond.initialized "java/lang/System" ∈ wsL_law := inl_5 _ (List.mem_of_getElem? (i := 17) rfl)
theorem wd_114 : Cond.methodLink RX8 67 yX0_addPiece ∈ wsL_law := inl_5 _ (List.mem_of_getElem? (i := 18) rfl)
theorem wd_115 : Cond.instanceMethod yX0_addPiece ∈ wsL_law := inl_5 _ (List.mem_of_getElem? (i := 19) rfl)
theorem wd_116 : Cond.selects RX0 yX0_addPiece yX0_addPiece ∈ wsL_law := inl_5 _ (List.mem_of_getElem? (i := 20) rfl)
theorem wd_117 : Cond.code yX0_addPiece cX0_addPiece 4 (some .int) ∈ wsL_law := inl_5 _ (List.mem_of_getElem? (i := 21) rfl)
theorem wd_118 : Cond.methodLink RX0 32 yX0_pieces ∈ wsL_law := inl_5 _ (List.mem_of_getElem? (i := 22) rfl)
theorem wd_119 : Cond.methodLink RX0 36 yX0_set ∈ wsL_law := inl_5 _ (List.mem_of_getElem? (i := 23) rfl)
theorem wd_120 : Cond.instanceMethod yX0_set ∈ wsL_law := inl_6 _ (List.mem_of_getElem? (i := 0) rfl)
theorem wd_121 : Cond.selects RX0 yX0_set yX0_set ∈ wsL_law := inl_6 _ (List.mem_of_getElem? (i := 1) rfl)
theorem wd_122 : Cond.code yX0_set cX0_set 3 none ∈ wsL_law := inl_6 _ (List.mem_of_getElem? (i := 2) rfl)
theorem wd_127 : Cond.methodLink RX9 29 yX9_in ∈ wsL_law := inl_6 _ (List.mem_of_getElem? (i := 7) rfl)
theorem wd_128 : Cond.static yX9_in ∈ wsL_law := inl_6 _ (List.mem_of_getElem? (i := 8) rfl)
theorem wd_129 : Cond.code yX9_in cX9_in 3 (some .boolean) ∈ wsL_law := inl_6 _ (List.mem_of_getElem? (i := 9) rfl)
theorem wd_130 : Cond.methodLink RX9 79 yX9_fails ∈ wsL_law := inl_6 _ (List.mem_of_getElem? (i := 10) rfl)
theorem wd_131 : Cond.instanceMethod yX9_fails ∈ wsL_law := inl_6 _ (List.mem_of_getElem? (i := 11) rfl)
theorem wd_132 : Cond.selects RX9 yX9_fails yX9_fails ∈ wsL_law := inl_6 _ (List.mem_of_getElem? (i := 12) rfl)
theorem wd_133 : Cond.code yX9_fails cX9_fails 2 (some .int) ∈ wsL_law := inl_6 _ (List.mem_of_getElem? (i := 13) rfl)
theorem wd_134 : Cond.methodLink RX9 82 yX9_saves ∈ wsL_law := inl_6 _ (List.mem_of_getElem? (i := 14) rfl)
theorem wd_135 : Cond.instanceMethod yX9_saves ∈ wsL_law := inl_6 _ (List.mem_of_getElem? (i := 15) rfl)
theorem wd_136 : Cond.selects RX9 yX9_saves yX9_saves ∈ wsL_law := inl_6 _ (List.mem_of_getElem? (i := 16) rfl)
theorem wd_137 : Cond.code yX9_saves cX9_saves 2 none ∈ wsL_law := inl_6 _ (List.mem_of_getElem? (i := 17) rfl)
theorem wd_138 : Cond.fieldLink RX9 40 "NightDiaryModel" "savedMany" "I" ∈ wsL_law := inl_6 _ (List.mem_of_getElem? (i := 18) rfl)
theorem wd_139 : Cond.methodLink RX9 75 yX9_lay ∈ wsL_law := inl_6 _ (List.mem_of_getElem? (i := 19) rfl)
theorem wd_140 : Cond.instanceMethod yX9_lay ∈ wsL_law := inl_6 _ (List.mem_of_getElem? (i := 20) rfl)
theorem wd_141 : Cond.selects RX9 yX9_lay yX9_lay ∈ wsL_law := inl_6 _ (List.mem_of_getElem? (i := 21) rfl)
theorem wd_142 : Cond.code yX9_lay cX9_lay 4 none ∈ wsL_law := inl_6 _ (List.mem_of_getElem? (i := 22) rfl)
theorem wd_155 : Cond.methodLink RX8 71 yX8_requirePiece ∈ wsL_law := inl_7 _ (List.mem_of_getElem? (i := 11) rfl)
theorem wd_156 : Cond.instanceMethod yX8_requirePiece ∈ wsL_law := inl_7 _ (List.mem_of_getElem? (i := 12) rfl)
theorem wd_157 : Cond.selects RX8 yX8_requirePiece yX8_requirePiece ∈ wsL_law := inl_7 _ (List.mem_of_getElem? (i := 13) rfl)
theorem wd_158 : Cond.code yX8_requirePiece cX8_requirePiece 2 none ∈ wsL_law := inl_7 _ (List.mem_of_getElem? (i := 14) rfl)
theorem wd_159 : Cond.classLink RX8 248 "java/lang/IndexOutOfBoundsException" ∈ wsL_law := inl_7 _ (List.mem_of_getElem? (i := 15) rfl)
theorem wd_160 : Cond.initialized "java/lang/IndexOutOfBoundsException" ∈ wsL_law := inl_7 _ (List.mem_of_getElem? (i := 16) rfl)
theorem wd_161 : Cond.methodLink RX8 75 yX8_bufferTellsReceipts ∈ wsL_law := inl_7 _ (List.mem_of_getElem? (i := 17) rfl)
theorem wd_162 : Cond.instanceMethod yX8_bufferTellsReceipts ∈ wsL_law := inl_7 _ (List.mem_of_getElem? (i := 18) rfl)
theorem wd_163 : Cond.selects RX8 yX8_bufferTellsReceipts yX8_bufferTellsReceipts ∈ wsL_law := inl_7 _ (List.mem_of_getElem? (i := 19) rfl)
theorem wd_164 : Cond.code yX8_bufferTellsReceipts cX8_bufferTellsReceipts 1 (some .boolean) ∈ wsL_law := inl_7 _ (List.mem_of_getElem? (i := 20) rfl)
theorem wd_165 : Cond.methodLink RX8 142 yX8_readBuffer ∈ wsL_law := inl_7 _ (List.mem_of_getElem? (i := 21) rfl)
theorem wd_166 : Cond.instanceMethod yX8_readBuffer ∈ wsL_law := inl_7 _ (List.mem_of_getElem? (i := 22) rfl)
theorem wd_167 : Cond.selects RX8 yX8_readBuffer yX8_readBuffer ∈ wsL_law := inl_7 _ (List.mem_of_getElem? (i := 23) rfl)
theorem wd_168 : Cond.code yX8_readBuffer cX8_readBuffer 2 (some .int) ∈ wsL_law := inl_8 _ (List.mem_of_getElem? (i := 0) rfl)
theorem wd_169 : Cond.methodLink RX8 255 yX6_restart ∈ wsL_law := inl_8 _ (List.mem_of_getElem? (i := 1) rfl)
theorem wd_170 : Cond.instanceMethod yX6_restart ∈ wsL_law := inl_8 _ (List.mem_of_getElem? (i := 2) rfl)
theorem wd_171 : Cond.selects RX6 yX6_restart yX6_restart ∈ wsL_law := inl_8 _ (List.mem_of_getElem? (i := 3) rfl)
theorem wd_172 : Cond.code yX6_restart cX6_restart 1 none ∈ wsL_law := inl_8 _ (List.mem_of_getElem? (i := 4) rfl)
theorem wd_173 : Cond.methodLink RX6 34 yX6_begin ∈ wsL_law := inl_8 _ (List.mem_of_getElem? (i := 5) rfl)
theorem wd_174 : Cond.instanceMethod yX6_begin ∈ wsL_law := inl_8 _ (List.mem_of_getElem? (i := 6) rfl)
theorem wd_175 : Cond.selects RX6 yX6_begin yX6_begin ∈ wsL_law := inl_8 _ (List.mem_of_getElem? (i := 7) rfl)
theorem wd_176 : Cond.code yX6_begin cX6_begin 2 none ∈ wsL_law := inl_8 _ (List.mem_of_getElem? (i := 8) rfl)
theorem wd_177 : Cond.methodLink RX8 134 yX1_length ∈ wsL_law := inl_8 _ (List.mem_of_getElem? (i := 9) rfl)
theorem wd_178 : Cond.instanceMethod yX1_length ∈ wsL_law := inl_8 _ (List.mem_of_getElem? (i := 10) rfl)
theorem wd_179 : Cond.selects RX1 yX1_length yX1_length ∈ wsL_law := inl_8 _ (List.mem_of_getElem? (i := 11) rfl)
theorem wd_180 : Cond.code yX1_length cX1_length 1 (some .int) ∈ wsL_law := inl_8 _ (List.mem_of_getElem? (i := 12) rfl)
theorem wd_181 : Cond.methodLink RX8 258 yX1_codeAt ∈ wsL_law := inl_8 _ (List.mem_of_getElem? (i := 13) rfl)
theorem wd_182 : Cond.instanceMethod yX1_codeAt ∈ wsL_law := inl_8 _ (List.mem_of_getElem? (i := 14) rfl)
theorem wd_183 : Cond.selects RX1 yX1_codeAt yX1_codeAt ∈ wsL_law := inl_8 _ (List.mem_of_getElem? (i := 15) rfl)
theorem wd_184 : Cond.code yX1_codeAt cX1_codeAt 2 (some .int) ∈ wsL_law := inl_8 _ (List.mem_of_getElem? (i := 16) rfl)
theorem wd_185 : Cond.methodLink RX8 261 yX6_accept ∈ wsL_law := inl_8 _ (List.mem_of_getElem? (i := 17) rfl)
theorem wd_186 : Cond.instanceMethod yX6_accept ∈ wsL_law := inl_8 _ (List.mem_of_getElem? (i := 18) rfl)
theorem wd_187 : Cond.selects RX6 yX6_accept yX6_accept ∈ wsL_law := inl_8 _ (List.mem_of_getElem? (i := 19) rfl)
theorem wd_188 : Cond.code yX6_accept cX6_accept 2 (some .boolean) ∈ wsL_law := inl_8 _ (List.mem_of_getElem? (i := 20) rfl)
theorem wd_189 : Cond.methodLink RX6 38 yX6_acceptDigit ∈ wsL_law := inl_8 _ (List.mem_of_getElem? (i := 21) rfl)
theorem wd_190 : Cond.instanceMethod yX6_acceptDigit ∈ wsL_law := inl_8 _ (List.mem_of_getElem? (i := 22) rfl)
theorem wd_191 : Cond.selects RX6 yX6_acceptDigit yX6_acceptDigit ∈ wsL_law := inl_8 _ (List.mem_of_getElem? (i := 23) rfl)
theorem wd_192 : Cond.code yX6_acceptDigit cX6_acceptDigit 3 (some .boolean) ∈ wsL_law := inl_9 _ (List.mem_of_getElem? (i := 0) rfl)
theorem wd_193 : Cond.methodLink RX6 45 yX6_mostDigits ∈ wsL_law := inl_9 _ (List.mem_of_getElem? (i := 1) rfl)
theorem wd_194 : Cond.instanceMethod yX6_mostDigits ∈ wsL_law := inl_9 _ (List.mem_of_getElem? (i := 2) rfl)
theorem wd_195 : Cond.selects RX6 yX6_mostDigits yX6_mostDigits ∈ wsL_law := inl_9 _ (List.mem_of_getElem? (i := 3) rfl)
theorem wd_196 : Cond.code yX6_mostDigits cX6_mostDigits 1 (some .int) ∈ wsL_law := inl_9 _ (List.mem_of_getElem? (i := 4) rfl)
theorem wd_197 : Cond.methodLink RX6 42 yX6_acceptMark ∈ wsL_law := inl_9 _ (List.mem_of_getElem? (i := 5) rfl)
theorem wd_198 : Cond.instanceMethod yX6_acceptMark ∈ wsL_law := inl_9 _ (List.mem_of_getElem? (i := 6) rfl)
theorem wd_199 : Cond.selects RX6 yX6_acceptMark yX6_acceptMark ∈ wsL_law := inl_9 _ (List.mem_of_getElem? (i := 7) rfl)
theorem wd_200 : Cond.code yX6_acceptMark cX6_acceptMark 2 (some .boolean) ∈ wsL_law := inl_9 _ (List.mem_of_getElem? (i := 8) rfl)
theorem wd_201 : Cond.methodLink RX6 49 yX6_endTime ∈ wsL_law := inl_9 _ (List.mem_of_getElem? (i := 9) rfl)
theorem wd_202 : Cond.instanceMethod yX6_endTime ∈ wsL_law := inl_9 _ (List.mem_of_getElem? (i := 10) rfl)
theorem wd_203 : Cond.selects RX6 yX6_endTime yX6_endTime ∈ wsL_law := inl_9 _ (List.mem_of_getElem? (i := 11) rfl)
theorem wd_204 : Cond.code yX6_endTime cX6_endTime 1 (some .boolean) ∈ wsL_law := inl_9 _ (List.mem_of_getElem? (i := 12) rfl)
theorem wd_205 : Cond.methodLink RX6 53 yX6_endShop ∈ wsL_law := inl_9 _ (List.mem_of_getElem? (i := 13) rfl)
theorem wd_206 : Cond.instanceMethod yX6_endShop ∈ wsL_law := inl_9 _ (List.mem_of_getElem? (i := 14) rfl)
theorem wd_207 : Cond.selects RX6 yX6_endShop yX6_endShop ∈ wsL_law := inl_9 _ (List.mem_of_getElem? (i := 15) rfl)
theorem wd_208 : Cond.code yX6_endShop cX6_endShop 1 (some .boolean) ∈ wsL_law := inl_9 _ (List.mem_of_getElem? (i := 16) rfl)
theorem wd_209 : Cond.methodLink RX6 56 yX6_endItem ∈ wsL_law := inl_9 _ (List.mem_of_getElem? (i := 17) rfl)
theorem wd_210 : Cond.instanceMethod yX6_endItem ∈ wsL_law := inl_9 _ (List.mem_of_getElem? (i := 18) rfl)
theorem wd_211 : Cond.selects RX6 yX6_endItem yX6_endItem ∈ wsL_law := inl_9 _ (List.mem_of_getElem? (i := 19) rfl)
theorem wd_212 : Cond.code yX6_endItem cX6_endItem 2 (some .boolean) ∈ wsL_law := inl_9 _ (List.mem_of_getElem? (i := 20) rfl)
theorem wd_213 : Cond.methodLink RX6 59 yX6_restart ∈ wsL_law := inl_9 _ (List.mem_of_getElem? (i := 21) rfl)
theorem wd_214 : Cond.methodLink RX8 265 yX6_isAtEndOfReceipt ∈ wsL_law := inl_9 _ (List.mem_of_getElem? (i := 22) rfl)
theorem wd_215 : Cond.instanceMethod yX6_isAtEndOfReceipt ∈ wsL_law := inl_9 _ (List.mem_of_getElem? (i := 23) rfl)
theorem wd_216 : Cond.selects RX6 yX6_isAtEndOfReceipt yX6_isAtEndOfReceipt ∈ wsL_law := inl_10 _ (List.mem_of_getElem? (i := 0) rfl)
theorem wd_217 : Cond.code yX6_isAtEndOfReceipt cX6_isAtEndOfReceipt 1 (some .boolean) ∈ wsL_law := inl_10 _ (List.mem_of_getElem? (i := 1) rfl)
theorem wd_218 : Cond.methodLink RX8 81 yX8_addFromBuffer ∈ wsL_law := inl_10 _ (List.mem_of_getElem? (i := 2) rfl)
theorem wd_219 : Cond.instanceMethod yX8_addFromBuffer ∈ wsL_law := inl_10 _ (List.mem_of_getElem? (i := 3) rfl)
theorem wd_220 : Cond.selects RX8 yX8_addFromBuffer yX8_addFromBuffer ∈ wsL_law := inl_10 _ (List.mem_of_getElem? (i := 4) rfl)
theorem wd_221 : Cond.code yX8_addFromBuffer cX8_addFromBuffer 5 (some .int) ∈ wsL_law := inl_10 _ (List.mem_of_getElem? (i := 5) rfl)
theorem wd_222 : Cond.methodLink RX8 268 yX8_addRead ∈ wsL_law := inl_10 _ (List.mem_of_getElem? (i := 6) rfl)
theorem wd_223 : Cond.instanceMethod yX8_addRead ∈ wsL_law := inl_10 _ (List.mem_of_getElem? (i := 7) rfl)
theorem wd_224 : Cond.selects RX8 yX8_addRead yX8_addRead ∈ wsL_law := inl_10 _ (List.mem_of_getElem? (i := 8) rfl)
theorem wd_225 : Cond.code yX8_addRead cX8_addRead 6 (some .boolean) ∈ wsL_law := inl_10 _ (List.mem_of_getElem? (i := 9) rfl)
theorem wd_226 : Cond.methodLink RX8 88 yX0_receiptsOf ∈ wsL_law := inl_10 _ (List.mem_of_getElem? (i := 10) rfl)
theorem wd_227 : Cond.instanceMethod yX0_receiptsOf ∈ wsL_law := inl_10 _ (List.mem_of_getElem? (i := 11) rfl)
theorem wd_228 : Cond.selects RX0 yX0_receiptsOf yX0_receiptsOf ∈ wsL_law := inl_10 _ (List.mem_of_getElem? (i := 12) rfl)
theorem wd_229 : Cond.code yX0_receiptsOf cX0_receiptsOf 2 (some .int) ∈ wsL_law := inl_10 _ (List.mem_of_getElem? (i := 13) rfl)
theorem wd_230 : Cond.methodLink RX8 271 yX6_time ∈ wsL_law := inl_10 _ (List.mem_of_getElem? (i := 14) rfl)
theorem wd_231 : Cond.instanceMethod yX6_time ∈ wsL_law := inl_10 _ (List.mem_of_getElem? (i := 15) rfl)
theorem wd_232 : Cond.selects RX6 yX6_time yX6_time ∈ wsL_law := inl_10 _ (List.mem_of_getElem? (i := 16) rfl)
theorem wd_233 : Cond.code yX6_time cX6_time 1 (some .int) ∈ wsL_law := inl_10 _ (List.mem_of_getElem? (i := 17) rfl)
theorem wd_234 : Cond.methodLink RX8 274 yX0_lastTimeUpTo ∈ wsL_law := inl_10 _ (List.mem_of_getElem? (i := 18) rfl)
theorem wd_235 : Cond.instanceMethod yX0_lastTimeUpTo ∈ wsL_law := inl_10 _ (List.mem_of_getElem? (i := 19) rfl)
theorem wd_236 : Cond.selects RX0 yX0_lastTimeUpTo yX0_lastTimeUpTo ∈ wsL_law := inl_10 _ (List.mem_of_getElem? (i := 20) rfl)
theorem wd_237 : Cond.code yX0_lastTimeUpTo cX0_lastTimeUpTo 5 (some .int) ∈ wsL_law := inl_10 _ (List.mem_of_getElem? (i := 21) rfl)
theorem wd_238 : Cond.methodLink RX8 106 yX0_get ∈ wsL_law := inl_10 _ (List.mem_of_getElem? (i := 22) rfl)
theorem wd_239 : Cond.methodLink RX8 277 yX0_firstTimeFrom ∈ wsL_law := inl_10 _ (List.mem_of_getElem? (i := 23) rfl)
theorem wd_240 : Cond.instanceMethod yX0_firstTimeFrom ∈ wsL_law := inl_11 _ (List.mem_of_getElem? (i := 0) rfl)
theorem wd_241 : Cond.selects RX0 yX0_firstTimeFrom yX0_firstTimeFrom ∈ wsL_law := inl_11 _ (List.mem_of_getElem? (i := 1) rfl)
theorem wd_242 : Cond.code yX0_firstTimeFrom cX0_firstTimeFrom 4 (some .int) ∈ wsL_law := inl_11 _ (List.mem_of_getElem? (i := 2) rfl)
theorem wd_243 : Cond.methodLink RX8 97 yX0_slotOf ∈ wsL_law := inl_11 _ (List.mem_of_getElem? (i := 3) rfl)
theorem wd_244 : Cond.static yX0_slotOf ∈ wsL_law := inl_11 _ (List.mem_of_getElem? (i := 4) rfl)
theorem wd_245 : Cond.code yX0_slotOf cX0_slotOf 2 (some .int) ∈ wsL_law := inl_11 _ (List.mem_of_getElem? (i := 5) rfl)
theorem wd_246 : Cond.methodLink RX8 93 yX0_set ∈ wsL_law := inl_11 _ (List.mem_of_getElem? (i := 6) rfl)
theorem wd_247 : Cond.methodLink RX8 280 yX6_shop ∈ wsL_law := inl_11 _ (List.mem_of_getElem? (i := 7) rfl)
theorem wd_248 : Cond.instanceMethod yX6_shop ∈ wsL_law := inl_11 _ (List.mem_of_getElem? (i := 8) rfl)
theorem wd_249 : Cond.selects RX6 yX6_shop yX6_shop ∈ wsL_law := inl_11 _ (List.mem_of_getElem? (i := 9) rfl)
theorem wd_250 : Cond.code yX6_shop cX6_shop 1 (some .int) ∈ wsL_law := inl_11 _ (List.mem_of_getElem? (i := 10) rfl)
theorem wd_251 : Cond.methodLink RX8 283 yX6_printed ∈ wsL_law := inl_11 _ (List.mem_of_getElem? (i := 11) rfl)
theorem wd_252 : Cond.instanceMethod yX6_printed ∈ wsL_law := inl_11 _ (List.mem_of_getElem? (i := 12) rfl)
theorem wd_253 : Cond.selects RX6 yX6_printed yX6_printed ∈ wsL_law := inl_11 _ (List.mem_of_getElem? (i := 13) rfl)
theorem wd_254 : Cond.code yX6_printed cX6_printed 1 (some .int) ∈ wsL_law := inl_11 _ (List.mem_of_getElem? (i := 14) rfl)
theorem wd_255 : Cond.methodLink RX8 286 yX6_items ∈ wsL_law := inl_11 _ (List.mem_of_getElem? (i := 15) rfl)
theorem wd_256 : Cond.instanceMethod yX6_items ∈ wsL_law := inl_11 _ (List.mem_of_getElem? (i := 16) rfl)
theorem wd_257 : Cond.selects RX6 yX6_items yX6_items ∈ wsL_law := inl_11 _ (List.mem_of_getElem? (i := 17) rfl)
theorem wd_258 : Cond.code yX6_items cX6_items 1 (some .int) ∈ wsL_law := inl_11 _ (List.mem_of_getElem? (i := 18) rfl)
theorem wd_259 : Cond.methodLink RX8 289 yX6_itemAt ∈ wsL_law := inl_11 _ (List.mem_of_getElem? (i := 19) rfl)
theorem wd_260 : Cond.instanceMethod yX6_itemAt ∈ wsL_law := inl_11 _ (List.mem_of_getElem? (i := 20) rfl)
theorem wd_261 : Cond.selects RX6 yX6_itemAt yX6_itemAt ∈ wsL_law := inl_11 _ (List.mem_of_getElem? (i := 21) rfl)
theorem wd_262 : Cond.code yX6_itemAt cX6_itemAt 2 (some .int) ∈ wsL_law := inl_11 _ (List.mem_of_getElem? (i := 22) rfl)
theorem wd_263 : Cond.methodLink RX8 85 yX1_clear ∈ wsL_law := inl_11 _ (List.mem_of_getElem? (i := 23) rfl)
theorem wd_264 : Cond.instanceMethod yX1_clear ∈ wsL_law := inl_12 _ (List.mem_of_getElem? (i := 0) rfl)
theorem wd_265 : Cond.selects RX1 yX1_clear yX1_clear ∈ wsL_law := inl_12 _ (List.mem_of_getElem? (i := 1) rfl)
theorem wd_266 : Cond.code yX1_clear cX1_clear 1 none ∈ wsL_law := inl_12 _ (List.mem_of_getElem? (i := 2) rfl)
theorem wd_271 : Cond.fieldLink RX9 92 "NightDiaryModel" "isWell" "Z" ∈ wsL_law := inl_12 _ (List.mem_of_getElem? (i := 7) rfl)
theorem wd_272 : Cond.fieldLink RX9 96 "NightDiaryModel" "length" "I" ∈ wsL_law := inl_12 _ (List.mem_of_getElem? (i := 8) rfl)
theorem wd_273 : Cond.fieldLink RX9 99 "NightDiaryModel" "readMany" "I" ∈ wsL_law := inl_12 _ (List.mem_of_getElem? (i := 9) rfl)
theorem wd_274 : Cond.methodLink RX9 85 yX9_isPiece ∈ wsL_law := inl_12 _ (List.mem_of_getElem? (i := 10) rfl)
theorem wd_275 : Cond.instanceMethod yX9_isPiece ∈ wsL_law := inl_12 _ (List.mem_of_getElem? (i := 11) rfl)
theorem wd_276 : Cond.selects RX9 yX9_isPiece yX9_isPiece ∈ wsL_law := inl_12 _ (List.mem_of_getElem? (i := 12) rfl)
theorem wd_277 : Cond.code yX9_isPiece cX9_isPiece 2 (some .boolean) ∈ wsL_law := inl_12 _ (List.mem_of_getElem? (i := 13) rfl)
theorem wd_278 : Cond.methodLink RX9 89 yX9_readsAll ∈ wsL_law := inl_12 _ (List.mem_of_getElem? (i := 14) rfl)
theorem wd_279 : Cond.instanceMethod yX9_readsAll ∈ wsL_law := inl_12 _ (List.mem_of_getElem? (i := 15) rfl)
theorem wd_280 : Cond.selects RX9 yX9_readsAll yX9_readsAll ∈ wsL_law := inl_12 _ (List.mem_of_getElem? (i := 16) rfl)
theorem wd_281 : Cond.code yX9_readsAll cX9_readsAll 1 none ∈ wsL_law := inl_12 _ (List.mem_of_getElem? (i := 17) rfl)
theorem wd_282 : Cond.fieldLink RX9 134 "NightDiaryModel" "at" "I" ∈ wsL_law := inl_12 _ (List.mem_of_getElem? (i := 18) rfl)
theorem wd_283 : Cond.methodLink RX9 146 yX9_readsReceipt ∈ wsL_law := inl_12 _ (List.mem_of_getElem? (i := 19) rfl)
theorem wd_284 : Cond.instanceMethod yX9_readsReceipt ∈ wsL_law := inl_12 _ (List.mem_of_getElem? (i := 20) rfl)
theorem wd_285 : Cond.selects RX9 yX9_readsReceipt yX9_readsReceipt ∈ wsL_law := inl_12 _ (List.mem_of_getElem? (i := 21) rfl)
theorem wd_286 : Cond.code yX9_readsReceipt cX9_readsReceipt 3 none ∈ wsL_law := inl_12 _ (List.mem_of_getElem? (i := 22) rfl)
theorem wd_287 : Cond.methodLink RX9 140 yX9_number ∈ wsL_law := inl_12 _ (List.mem_of_getElem? (i := 23) rfl)
theorem wd_288 : Cond.instanceMethod yX9_number ∈ wsL_law := inl_13 _ (List.mem_of_getElem? (i := 0) rfl)
theorem wd_289 : Cond.selects RX9 yX9_number yX9_number ∈ wsL_law := inl_13 _ (List.mem_of_getElem? (i := 1) rfl)
theorem wd_290 : Cond.code yX9_number cX9_number 4 (some .int) ∈ wsL_law := inl_13 _ (List.mem_of_getElem? (i := 2) rfl)
theorem wd_291 : Cond.methodLink RX9 137 yX9_sign ∈ wsL_law := inl_13 _ (List.mem_of_getElem? (i := 3) rfl)
theorem wd_292 : Cond.instanceMethod yX9_sign ∈ wsL_law := inl_13 _ (List.mem_of_getElem? (i := 4) rfl)
theorem wd_293 : Cond.selects RX9 yX9_sign yX9_sign ∈ wsL_law := inl_13 _ (List.mem_of_getElem? (i := 5) rfl)
theorem wd_294 : Cond.code yX9_sign cX9_sign 1 (some .int) ∈ wsL_law := inl_13 _ (List.mem_of_getElem? (i := 6) rfl)
theorem wd_295 : Cond.methodLink RX9 143 yX9_takes ∈ wsL_law := inl_13 _ (List.mem_of_getElem? (i := 7) rfl)
theorem wd_296 : Cond.instanceMethod yX9_takes ∈ wsL_law := inl_13 _ (List.mem_of_getElem? (i := 8) rfl)
theorem wd_297 : Cond.selects RX9 yX9_takes yX9_takes ∈ wsL_law := inl_13 _ (List.mem_of_getElem? (i := 9) rfl)
theorem wd_298 : Cond.code yX9_takes cX9_takes 3 (some .boolean) ∈ wsL_law := inl_13 _ (List.mem_of_getElem? (i := 10) rfl)
theorem wd_299 : Cond.methodLink RX9 102 yX9_canAdd ∈ wsL_law := inl_13 _ (List.mem_of_getElem? (i := 11) rfl)
theorem wd_300 : Cond.instanceMethod yX9_canAdd ∈ wsL_law := inl_13 _ (List.mem_of_getElem? (i := 12) rfl)
theorem wd_301 : Cond.selects RX9 yX9_canAdd yX9_canAdd ∈ wsL_law := inl_13 _ (List.mem_of_getElem? (i := 13) rfl)
theorem wd_302 : Cond.code yX9_canAdd cX9_canAdd 4 (some .boolean) ∈ wsL_law := inl_13 _ (List.mem_of_getElem? (i := 14) rfl)
theorem wd_303 : Cond.methodLink RX9 60 yX9_lowerOf ∈ wsL_law := inl_13 _ (List.mem_of_getElem? (i := 15) rfl)
theorem wd_304 : Cond.instanceMethod yX9_lowerOf ∈ wsL_law := inl_13 _ (List.mem_of_getElem? (i := 16) rfl)
theorem wd_305 : Cond.selects RX9 yX9_lowerOf yX9_lowerOf ∈ wsL_law := inl_13 _ (List.mem_of_getElem? (i := 17) rfl)
theorem wd_306 : Cond.code yX9_lowerOf cX9_lowerOf 2 (some .int) ∈ wsL_law := inl_13 _ (List.mem_of_getElem? (i := 18) rfl)
theorem wd_307 : Cond.methodLink RX9 33 yX9_of ∈ wsL_law := inl_13 _ (List.mem_of_getElem? (i := 19) rfl)
theorem wd_308 : Cond.instanceMethod yX9_of ∈ wsL_law := inl_13 _ (List.mem_of_getElem? (i := 20) rfl)
theorem wd_309 : Cond.selects RX9 yX9_of yX9_of ∈ wsL_law := inl_13 _ (List.mem_of_getElem? (i := 21) rfl)
theorem wd_310 : Cond.code yX9_of cX9_of 3 (some .int) ∈ wsL_law := inl_13 _ (List.mem_of_getElem? (i := 22) rfl)
theorem wd_311 : Cond.methodLink RX9 66 yX9_firstTime ∈ wsL_law := inl_13 _ (List.mem_of_getElem? (i := 23) rfl)
theorem wd_312 : Cond.instanceMethod yX9_firstTime ∈ wsL_law := inl_14 _ (List.mem_of_getElem? (i := 0) rfl)
theorem wd_313 : Cond.selects RX9 yX9_firstTime yX9_firstTime ∈ wsL_law := inl_14 _ (List.mem_of_getElem? (i := 1) rfl)
theorem wd_314 : Cond.code yX9_firstTime cX9_firstTime 3 (some .int) ∈ wsL_law := inl_14 _ (List.mem_of_getElem? (i := 2) rfl)
theorem wd_315 : Cond.methodLink RX9 57 yX9_timeOf ∈ wsL_law := inl_14 _ (List.mem_of_getElem? (i := 3) rfl)
theorem wd_316 : Cond.instanceMethod yX9_timeOf ∈ wsL_law := inl_14 _ (List.mem_of_getElem? (i := 4) rfl)
theorem wd_317 : Cond.selects RX9 yX9_timeOf yX9_timeOf ∈ wsL_law := inl_14 _ (List.mem_of_getElem? (i := 5) rfl)
theorem wd_318 : Cond.code yX9_timeOf cX9_timeOf 3 (some .int) ∈ wsL_law := inl_14 _ (List.mem_of_getElem? (i := 6) rfl)
theorem wd_319 : Cond.methodLink RX9 37 yX9_placeOf ∈ wsL_law := inl_14 _ (List.mem_of_getElem? (i := 7) rfl)
theorem wd_320 : Cond.static yX9_placeOf ∈ wsL_law := inl_14 _ (List.mem_of_getElem? (i := 8) rfl)
theorem wd_321 : Cond.code yX9_placeOf cX9_placeOf 2 (some .int) ∈ wsL_law := inl_14 _ (List.mem_of_getElem? (i := 9) rfl)
theorem wd_322 : Cond.methodLink RX9 69 yX9_lastTime ∈ wsL_law := inl_14 _ (List.mem_of_getElem? (i := 10) rfl)
theorem wd_323 : Cond.instanceMethod yX9_lastTime ∈ wsL_law := inl_14 _ (List.mem_of_getElem? (i := 11) rfl)
theorem wd_324 : Cond.selects RX9 yX9_lastTime yX9_lastTime ∈ wsL_law := inl_14 _ (List.mem_of_getElem? (i := 12) rfl)
theorem wd_325 : Cond.code yX9_lastTime cX9_lastTime 3 (some .int) ∈ wsL_law := inl_14 _ (List.mem_of_getElem? (i := 13) rfl)
theorem wd_326 : Cond.methodLink RX9 54 yX9_upperOf ∈ wsL_law := inl_14 _ (List.mem_of_getElem? (i := 14) rfl)
theorem wd_327 : Cond.instanceMethod yX9_upperOf ∈ wsL_law := inl_14 _ (List.mem_of_getElem? (i := 15) rfl)
theorem wd_328 : Cond.selects RX9 yX9_upperOf yX9_upperOf ∈ wsL_law := inl_14 _ (List.mem_of_getElem? (i := 16) rfl)
theorem wd_329 : Cond.code yX9_upperOf cX9_upperOf 2 (some .int) ∈ wsL_law := inl_14 _ (List.mem_of_getElem? (i := 17) rfl)
theorem wd_337 : Cond.methodLink RX8 100 yX0_sumOf ∈ wsL_law := inl_15 _ (List.mem_of_getElem? (i := 1) rfl)
theorem wd_338 : Cond.instanceMethod yX0_sumOf ∈ wsL_law := inl_15 _ (List.mem_of_getElem? (i := 2) rfl)
theorem wd_339 : Cond.selects RX0 yX0_sumOf yX0_sumOf ∈ wsL_law := inl_15 _ (List.mem_of_getElem? (i := 3) rfl)
theorem wd_340 : Cond.code yX0_sumOf cX0_sumOf 5 (some .int) ∈ wsL_law := inl_15 _ (List.mem_of_getElem? (i := 4) rfl)
theorem wd_345 : Cond.methodLink RX9 47 yX9_sumOf ∈ wsL_law := inl_15 _ (List.mem_of_getElem? (i := 9) rfl)
theorem wd_346 : Cond.instanceMethod yX9_sumOf ∈ wsL_law := inl_15 _ (List.mem_of_getElem? (i := 10) rfl)
theorem wd_347 : Cond.selects RX9 yX9_sumOf yX9_sumOf ∈ wsL_law := inl_15 _ (List.mem_of_getElem? (i := 11) rfl)
theorem wd_348 : Cond.code yX9_sumOf cX9_sumOf 6 (some .int) ∈ wsL_law := inl_15 _ (List.mem_of_getElem? (i := 12) rfl)
theorem wd_356 : Cond.methodLink RX8 103 yX8_requireReceipt ∈ wsL_law := inl_15 _ (List.mem_of_getElem? (i := 20) rfl)
theorem wd_357 : Cond.instanceMethod yX8_requireReceipt ∈ wsL_law := inl_15 _ (List.mem_of_getElem? (i := 21) rfl)
theorem wd_358 : Cond.selects RX8 yX8_requireReceipt yX8_requireReceipt ∈ wsL_law := inl_15 _ (List.mem_of_getElem? (i := 22) rfl)
theorem wd_359 : Cond.code yX8_requireReceipt cX8_requireReceipt 3 none ∈ wsL_law := inl_15 _ (List.mem_of_getElem? (i := 23) rfl)
theorem wd_364 : Cond.methodLink RX9 105 yX9_isReceipt ∈ wsL_law := inl_16 _ (List.mem_of_getElem? (i := 4) rfl)
theorem wd_365 : Cond.instanceMethod yX9_isReceipt ∈ wsL_law := inl_16 _ (List.mem_of_getElem? (i := 5) rfl)
theorem wd_366 : Cond.selects RX9 yX9_isReceipt yX9_isReceipt ∈ wsL_law := inl_16 _ (List.mem_of_getElem? (i := 6) rfl)
theorem wd_367 : Cond.code yX9_isReceipt cX9_isReceipt 3 (some .boolean) ∈ wsL_law := inl_16 _ (List.mem_of_getElem? (i := 7) rfl)
theorem wd_368 : Cond.methodLink RX9 108 yX9_totalOf ∈ wsL_law := inl_16 _ (List.mem_of_getElem? (i := 8) rfl)
theorem wd_369 : Cond.instanceMethod yX9_totalOf ∈ wsL_law := inl_16 _ (List.mem_of_getElem? (i := 9) rfl)
theorem wd_370 : Cond.selects RX9 yX9_totalOf yX9_totalOf ∈ wsL_law := inl_16 _ (List.mem_of_getElem? (i := 10) rfl)
theorem wd_371 : Cond.code yX9_totalOf cX9_totalOf 3 (some .int) ∈ wsL_law := inl_16 _ (List.mem_of_getElem? (i := 11) rfl)
theorem wd_379 : Cond.methodLink RX8 109 yX3_obstacle ∈ wsL_law := inl_16 _ (List.mem_of_getElem? (i := 19) rfl)
theorem wd_380 : Cond.static yX3_obstacle ∈ wsL_law := inl_16 _ (List.mem_of_getElem? (i := 20) rfl)
theorem wd_381 : Cond.initialized RX3 ∈ wsL_law := inl_16 _ (List.mem_of_getElem? (i := 21) rfl)
theorem wd_382 : Cond.code yX3_obstacle cX3_obstacle 3 (some .int) ∈ wsL_law := inl_16 _ (List.mem_of_getElem? (i := 22) rfl)
theorem wd_383 : Cond.methodLink RX3 11 yX0_get ∈ wsL_law := inl_16 _ (List.mem_of_getElem? (i := 23) rfl)
theorem wd_384 : Cond.methodLink RX3 17 yX0_firstOfRoll ∈ wsL_law := inl_17 _ (List.mem_of_getElem? (i := 0) rfl)
theorem wd_385 : Cond.instanceMethod yX0_firstOfRoll ∈ wsL_law := inl_17 _ (List.mem_of_getElem? (i := 1) rfl)
theorem wd_386 : Cond.selects RX0 yX0_firstOfRoll yX0_firstOfRoll ∈ wsL_law := inl_17 _ (List.mem_of_getElem? (i := 2) rfl)
theorem wd_387 : Cond.code yX0_firstOfRoll cX0_firstOfRoll 5 (some .int) ∈ wsL_law := inl_17 _ (List.mem_of_getElem? (i := 3) rfl)
theorem wd_388 : Cond.methodLink RX3 20 yX0_lastTimeUpTo ∈ wsL_law := inl_17 _ (List.mem_of_getElem? (i := 4) rfl)
theorem wd_389 : Cond.methodLink RX3 23 yX0_firstTimeFrom ∈ wsL_law := inl_17 _ (List.mem_of_getElem? (i := 5) rfl)
theorem wd_390 : Cond.methodLink RX8 117 yX0_link ∈ wsL_law := inl_17 _ (List.mem_of_getElem? (i := 6) rfl)
theorem wd_391 : Cond.instanceMethod yX0_link ∈ wsL_law := inl_17 _ (List.mem_of_getElem? (i := 7) rfl)
theorem wd_392 : Cond.selects RX0 yX0_link yX0_link ∈ wsL_law := inl_17 _ (List.mem_of_getElem? (i := 8) rfl)
theorem wd_393 : Cond.code yX0_link cX0_link 3 none ∈ wsL_law := inl_17 _ (List.mem_of_getElem? (i := 9) rfl)
theorem wd_394 : Cond.methodLink RX8 120 yX0_piecesOfRoll ∈ wsL_law := inl_17 _ (List.mem_of_getElem? (i := 10) rfl)
theorem wd_395 : Cond.instanceMethod yX0_piecesOfRoll ∈ wsL_law := inl_17 _ (List.mem_of_getElem? (i := 11) rfl)
theorem wd_396 : Cond.selects RX0 yX0_piecesOfRoll yX0_piecesOfRoll ∈ wsL_law := inl_17 _ (List.mem_of_getElem? (i := 12) rfl)
theorem wd_397 : Cond.code yX0_piecesOfRoll cX0_piecesOfRoll 5 (some .int) ∈ wsL_law := inl_17 _ (List.mem_of_getElem? (i := 13) rfl)
theorem wd_398 : Cond.methodLink RX0 40 yX0_firstOfRoll ∈ wsL_law := inl_17 _ (List.mem_of_getElem? (i := 14) rfl)
theorem wd_403 : Cond.methodLink RX9 72 yX9_fitting ∈ wsL_law := inl_17 _ (List.mem_of_getElem? (i := 19) rfl)
theorem wd_404 : Cond.instanceMethod yX9_fitting ∈ wsL_law := inl_17 _ (List.mem_of_getElem? (i := 20) rfl)
theorem wd_405 : Cond.selects RX9 yX9_fitting yX9_fitting ∈ wsL_law := inl_17 _ (List.mem_of_getElem? (i := 21) rfl)
theorem wd_406 : Cond.code yX9_fitting cX9_fitting 4 (some .int) ∈ wsL_law := inl_17 _ (List.mem_of_getElem? (i := 22) rfl)
theorem wd_407 : Cond.methodLink RX9 63 yX9_firstOf ∈ wsL_law := inl_17 _ (List.mem_of_getElem? (i := 23) rfl)
theorem wd_408 : Cond.instanceMethod yX9_firstOf ∈ wsL_law := inl_18 _ (List.mem_of_getElem? (i := 0) rfl)
theorem wd_409 : Cond.selects RX9 yX9_firstOf yX9_firstOf ∈ wsL_law := inl_18 _ (List.mem_of_getElem? (i := 1) rfl)
theorem wd_410 : Cond.code yX9_firstOf cX9_firstOf 3 (some .int) ∈ wsL_law := inl_18 _ (List.mem_of_getElem? (i := 2) rfl)
theorem wd_411 : Cond.methodLink RX9 111 yX9_joins ∈ wsL_law := inl_18 _ (List.mem_of_getElem? (i := 3) rfl)
theorem wd_412 : Cond.instanceMethod yX9_joins ∈ wsL_law := inl_18 _ (List.mem_of_getElem? (i := 4) rfl)
theorem wd_413 : Cond.selects RX9 yX9_joins yX9_joins ∈ wsL_law := inl_18 _ (List.mem_of_getElem? (i := 5) rfl)
theorem wd_414 : Cond.code yX9_joins cX9_joins 3 none ∈ wsL_law := inl_18 _ (List.mem_of_getElem? (i := 6) rfl)
theorem wd_415 : Cond.methodLink RX9 115 yX9_piecesOfRoll ∈ wsL_law := inl_18 _ (List.mem_of_getElem? (i := 7) rfl)
theorem wd_416 : Cond.instanceMethod yX9_piecesOfRoll ∈ wsL_law := inl_18 _ (List.mem_of_getElem? (i := 8) rfl)
theorem wd_417 : Cond.selects RX9 yX9_piecesOfRoll yX9_piecesOfRoll ∈ wsL_law := inl_18 _ (List.mem_of_getElem? (i := 9) rfl)
theorem wd_418 : Cond.code yX9_piecesOfRoll cX9_piecesOfRoll 4 (some .int) ∈ wsL_law := inl_18 _ (List.mem_of_getElem? (i := 10) rfl)
theorem wd_426 : Cond.methodLink RX8 125 yX0_unlink ∈ wsL_law := inl_18 _ (List.mem_of_getElem? (i := 18) rfl)
theorem wd_427 : Cond.instanceMethod yX0_unlink ∈ wsL_law := inl_18 _ (List.mem_of_getElem? (i := 19) rfl)
theorem wd_428 : Cond.selects RX0 yX0_unlink yX0_unlink ∈ wsL_law := inl_18 _ (List.mem_of_getElem? (i := 20) rfl)
theorem wd_429 : Cond.code yX0_unlink cX0_unlink 3 none ∈ wsL_law := inl_18 _ (List.mem_of_getElem? (i := 21) rfl)
theorem wd_438 : Cond.methodLink RX8 128 yX3_joinAllClear ∈ wsL_law := inl_19 _ (List.mem_of_getElem? (i := 6) rfl)
theorem wd_439 : Cond.static yX3_joinAllClear ∈ wsL_law := inl_19 _ (List.mem_of_getElem? (i := 7) rfl)
theorem wd_440 : Cond.code yX3_joinAllClear cX3_joinAllClear 4 (some .int) ∈ wsL_law := inl_19 _ (List.mem_of_getElem? (i := 8) rfl)
theorem wd_441 : Cond.methodLink RX3 34 yX3_lowestClear ∈ wsL_law := inl_19 _ (List.mem_of_getElem? (i := 9) rfl)
theorem wd_442 : Cond.static yX3_lowestClear ∈ wsL_law := inl_19 _ (List.mem_of_getElem? (i := 10) rfl)
theorem wd_443 : Cond.code yX3_lowestClear cX3_lowestClear 3 (some .int) ∈ wsL_law := inl_19 _ (List.mem_of_getElem? (i := 11) rfl)
theorem wd_444 : Cond.methodLink RX3 26 yX0_pieces ∈ wsL_law := inl_19 _ (List.mem_of_getElem? (i := 12) rfl)
theorem wd_445 : Cond.methodLink RX3 38 yX3_lowersOf ∈ wsL_law := inl_19 _ (List.mem_of_getElem? (i := 13) rfl)
theorem wd_446 : Cond.static yX3_lowersOf ∈ wsL_law := inl_19 _ (List.mem_of_getElem? (i := 14) rfl)
theorem wd_447 : Cond.code yX3_lowersOf cX3_lowersOf 4 (some .int) ∈ wsL_law := inl_19 _ (List.mem_of_getElem? (i := 15) rfl)
theorem wd_448 : Cond.methodLink RX3 30 yX3_obstacle ∈ wsL_law := inl_19 _ (List.mem_of_getElem? (i := 16) rfl)
theorem wd_449 : Cond.methodLink RX3 49 yJ6_bitCount_0f7a4 ∈ wsL_law := inl_19 _ (List.mem_of_getElem? (i := 17) rfl)
theorem wd_450 : Cond.static yJ6_bitCount_0f7a4 ∈ wsL_law := inl_19 _ (List.mem_of_getElem? (i := 18) rfl)
theorem wd_451 : Cond.initialized RJ6 ∈ wsL_law := inl_19 _ (List.mem_of_getElem? (i := 19) rfl)
theorem wd_452 : Cond.code yJ6_bitCount_0f7a4 cJ6_bitCount_0f7a4 1 (some .int) ∈ wsL_law := inl_19 _ (List.mem_of_getElem? (i := 20) rfl)
theorem wd_453 : Cond.constant RJ6 265 (1431655765) ∈ wsL_law := inl_19 _ (List.mem_of_getElem? (i := 21) rfl)
theorem wd_454 : Cond.constant RJ6 266 (858993459) ∈ wsL_law := inl_19 _ (List.mem_of_getElem? (i := 22) rfl)
theorem wd_455 : Cond.constant RJ6 267 (252645135) ∈ wsL_law := inl_19 _ (List.mem_of_getElem? (i := 23) rfl)
theorem wd_456 : Cond.static yX8_lowestOf ∈ wsL_law := inl_20 _ (List.mem_of_getElem? (i := 0) rfl)
theorem wd_457 : Cond.code yX8_lowestOf cX8_lowestOf 1 (some .int) ∈ wsL_law := inl_20 _ (List.mem_of_getElem? (i := 1) rfl)
theorem wd_458 : Cond.methodLink RX8 241 yJ6_bitCount_0f7a4 ∈ wsL_law := inl_20 _ (List.mem_of_getElem? (i := 2) rfl)
theorem wd_459 : Cond.methodLink RX3 54 yX3_uppersOf ∈ wsL_law := inl_20 _ (List.mem_of_getElem? (i := 3) rfl)
theorem wd_460 : Cond.static yX3_uppersOf ∈ wsL_law := inl_20 _ (List.mem_of_getElem? (i := 4) rfl)
theorem wd_461 : Cond.code yX3_uppersOf cX3_uppersOf 4 (some .int) ∈ wsL_law := inl_20 _ (List.mem_of_getElem? (i := 5) rfl)
theorem wd_462 : Cond.methodLink RX3 45 yX0_link ∈ wsL_law := inl_20 _ (List.mem_of_getElem? (i := 6) rfl)
theorem wd_467 : Cond.methodLink RX9 130 yX9_clearOne ∈ wsL_law := inl_20 _ (List.mem_of_getElem? (i := 11) rfl)
theorem wd_468 : Cond.instanceMethod yX9_clearOne ∈ wsL_law := inl_20 _ (List.mem_of_getElem? (i := 12) rfl)
theorem wd_469 : Cond.selects RX9 yX9_clearOne yX9_clearOne ∈ wsL_law := inl_20 _ (List.mem_of_getElem? (i := 13) rfl)
theorem wd_470 : Cond.code yX9_clearOne cX9_clearOne 3 (some .int) ∈ wsL_law := inl_20 _ (List.mem_of_getElem? (i := 14) rfl)
theorem wd_471 : Cond.methodLink RX9 118 yX9_canBelow ∈ wsL_law := inl_20 _ (List.mem_of_getElem? (i := 15) rfl)
theorem wd_472 : Cond.instanceMethod yX9_canBelow ∈ wsL_law := inl_20 _ (List.mem_of_getElem? (i := 16) rfl)
theorem wd_473 : Cond.selects RX9 yX9_canBelow yX9_canBelow ∈ wsL_law := inl_20 _ (List.mem_of_getElem? (i := 17) rfl)
theorem wd_474 : Cond.code yX9_canBelow cX9_canBelow 4 (some .int) ∈ wsL_law := inl_20 _ (List.mem_of_getElem? (i := 18) rfl)
theorem wd_475 : Cond.methodLink RX9 121 yX9_ones ∈ wsL_law := inl_20 _ (List.mem_of_getElem? (i := 19) rfl)
theorem wd_476 : Cond.static yX9_ones ∈ wsL_law := inl_20 _ (List.mem_of_getElem? (i := 20) rfl)
theorem wd_477 : Cond.code yX9_ones cX9_ones 3 (some .int) ∈ wsL_law := inl_20 _ (List.mem_of_getElem? (i := 21) rfl)
theorem wd_478 : Cond.methodLink RX9 124 yX9_lowest ∈ wsL_law := inl_20 _ (List.mem_of_getElem? (i := 22) rfl)
theorem wd_479 : Cond.static yX9_lowest ∈ wsL_law := inl_20 _ (List.mem_of_getElem? (i := 23) rfl)
theorem wd_480 : Cond.code yX9_lowest cX9_lowest 2 (some .int) ∈ wsL_law := inl_21 _ (List.mem_of_getElem? (i := 0) rfl)
theorem wd_481 : Cond.methodLink RX9 127 yX9_canAbove ∈ wsL_law := inl_21 _ (List.mem_of_getElem? (i := 1) rfl)
theorem wd_482 : Cond.instanceMethod yX9_canAbove ∈ wsL_law := inl_21 _ (List.mem_of_getElem? (i := 2) rfl)
theorem wd_483 : Cond.selects RX9 yX9_canAbove yX9_canAbove ∈ wsL_law := inl_21 _ (List.mem_of_getElem? (i := 3) rfl)
theorem wd_484 : Cond.code yX9_canAbove cX9_canAbove 4 (some .int) ∈ wsL_law := inl_21 _ (List.mem_of_getElem? (i := 4) rfl)
theorem wd_492 : Cond.methodLink RX8 139 yX1_add ∈ wsL_law := inl_21 _ (List.mem_of_getElem? (i := 12) rfl)
theorem wd_493 : Cond.instanceMethod yX1_add ∈ wsL_law := inl_21 _ (List.mem_of_getElem? (i := 13) rfl)
theorem wd_494 : Cond.selects RX1 yX1_add yX1_add ∈ wsL_law := inl_21 _ (List.mem_of_getElem? (i := 14) rfl)
theorem wd_495 : Cond.code yX1_add cX1_add 2 none ∈ wsL_law := inl_21 _ (List.mem_of_getElem? (i := 15) rfl)
theorem wd_523 : Cond.methodLink RX8 145 yX0_savedStates ∈ wsL_law := inl_22 _ (List.mem_of_getElem? (i := 19) rfl)
theorem wd_524 : Cond.instanceMethod yX0_savedStates ∈ wsL_law := inl_22 _ (List.mem_of_getElem? (i := 20) rfl)
theorem wd_525 : Cond.selects RX0 yX0_savedStates yX0_savedStates ∈ wsL_law := inl_22 _ (List.mem_of_getElem? (i := 21) rfl)
theorem wd_526 : Cond.code yX0_savedStates cX0_savedStates 1 (some .int) ∈ wsL_law := inl_22 _ (List.mem_of_getElem? (i := 22) rfl)
theorem wd_527 : Cond.methodLink RX8 150 yX0_restore ∈ wsL_law := inl_22 _ (List.mem_of_getElem? (i := 23) rfl)
theorem wd_528 : Cond.instanceMethod yX0_restore ∈ wsL_law := inl_23 _ (List.mem_of_getElem? (i := 0) rfl)
theorem wd_529 : Cond.selects RX0 yX0_restore yX0_restore ∈ wsL_law := inl_23 _ (List.mem_of_getElem? (i := 1) rfl)
theorem wd_530 : Cond.code yX0_restore cX0_restore 1 none ∈ wsL_law := inl_23 _ (List.mem_of_getElem? (i := 2) rfl)
theorem wd_542 : Cond.methodLink RX8 153 yX8_requireChoice ∈ wsL_law := inl_23 _ (List.mem_of_getElem? (i := 14) rfl)
theorem wd_543 : Cond.static yX8_requireChoice ∈ wsL_law := inl_23 _ (List.mem_of_getElem? (i := 15) rfl)
theorem wd_544 : Cond.code yX8_requireChoice cX8_requireChoice 2 none ∈ wsL_law := inl_23 _ (List.mem_of_getElem? (i := 16) rfl)
theorem wd_545 : Cond.methodLink RX8 156 yX8_pieceProperty ∈ wsL_law := inl_23 _ (List.mem_of_getElem? (i := 17) rfl)
theorem wd_546 : Cond.instanceMethod yX8_pieceProperty ∈ wsL_law := inl_23 _ (List.mem_of_getElem? (i := 18) rfl)
theorem wd_547 : Cond.selects RX8 yX8_pieceProperty yX8_pieceProperty ∈ wsL_law := inl_23 _ (List.mem_of_getElem? (i := 19) rfl)
theorem wd_548 : Cond.code yX8_pieceProperty cX8_pieceProperty 3 (some .int) ∈ wsL_law := inl_23 _ (List.mem_of_getElem? (i := 20) rfl)
theorem wd_549 : Cond.methodLink RX8 292 yX0_firstOfRoll ∈ wsL_law := inl_23 _ (List.mem_of_getElem? (i := 21) rfl)
theorem wd_550 : Cond.methodLink RX8 295 yX3_lowersOf ∈ wsL_law := inl_23 _ (List.mem_of_getElem? (i := 22) rfl)
theorem wd_551 : Cond.methodLink RX8 298 yX7_sumOfPiece ∈ wsL_law := inl_23 _ (List.mem_of_getElem? (i := 23) rfl)
theorem wd_552 : Cond.static yX7_sumOfPiece ∈ wsL_law := inl_24 _ (List.mem_of_getElem? (i := 0) rfl)
theorem wd_553 : Cond.initialized RX7 ∈ wsL_law := inl_24 _ (List.mem_of_getElem? (i := 1) rfl)
theorem wd_554 : Cond.code yX7_sumOfPiece cX7_sumOfPiece 4 (some .int) ∈ wsL_law := inl_24 _ (List.mem_of_getElem? (i := 2) rfl)
theorem wd_555 : Cond.methodLink RX7 15 yX0_receiptsOf ∈ wsL_law := inl_24 _ (List.mem_of_getElem? (i := 3) rfl)
theorem wd_556 : Cond.methodLink RX7 29 yX0_slotOf ∈ wsL_law := inl_24 _ (List.mem_of_getElem? (i := 4) rfl)
theorem wd_557 : Cond.methodLink RX7 33 yX0_sumOf ∈ wsL_law := inl_24 _ (List.mem_of_getElem? (i := 5) rfl)
theorem wd_562 : Cond.methodLink RX9 152 yX9_tellsPiece ∈ wsL_law := inl_24 _ (List.mem_of_getElem? (i := 10) rfl)
theorem wd_563 : Cond.instanceMethod yX9_tellsPiece ∈ wsL_law := inl_24 _ (List.mem_of_getElem? (i := 11) rfl)
theorem wd_564 : Cond.selects RX9 yX9_tellsPiece yX9_tellsPiece ∈ wsL_law := inl_24 _ (List.mem_of_getElem? (i := 12) rfl)
theorem wd_565 : Cond.code yX9_tellsPiece cX9_tellsPiece 3 (some .int) ∈ wsL_law := inl_24 _ (List.mem_of_getElem? (i := 13) rfl)
theorem wd_566 : Cond.methodLink RX9 149 yX9_sumOfPiece ∈ wsL_law := inl_24 _ (List.mem_of_getElem? (i := 14) rfl)
theorem wd_567 : Cond.instanceMethod yX9_sumOfPiece ∈ wsL_law := inl_24 _ (List.mem_of_getElem? (i := 15) rfl)
theorem wd_568 : Cond.selects RX9 yX9_sumOfPiece yX9_sumOfPiece ∈ wsL_law := inl_24 _ (List.mem_of_getElem? (i := 16) rfl)
theorem wd_569 : Cond.code yX9_sumOfPiece cX9_sumOfPiece 4 (some .int) ∈ wsL_law := inl_24 _ (List.mem_of_getElem? (i := 17) rfl)
theorem wd_577 : Cond.methodLink RX8 159 yX8_receiptProperty ∈ wsL_law := inl_25 _ (List.mem_of_getElem? (i := 1) rfl)
theorem wd_578 : Cond.instanceMethod yX8_receiptProperty ∈ wsL_law := inl_25 _ (List.mem_of_getElem? (i := 2) rfl)
theorem wd_579 : Cond.selects RX8 yX8_receiptProperty yX8_receiptProperty ∈ wsL_law := inl_25 _ (List.mem_of_getElem? (i := 3) rfl)
theorem wd_580 : Cond.code yX8_receiptProperty cX8_receiptProperty 3 (some .int) ∈ wsL_law := inl_25 _ (List.mem_of_getElem? (i := 4) rfl)
theorem wd_581 : Cond.methodLink RX8 301 yX2_kindOf ∈ wsL_law := inl_25 _ (List.mem_of_getElem? (i := 5) rfl)
theorem wd_582 : Cond.static yX2_kindOf ∈ wsL_law := inl_25 _ (List.mem_of_getElem? (i := 6) rfl)
theorem wd_583 : Cond.initialized RX2 ∈ wsL_law := inl_25 _ (List.mem_of_getElem? (i := 7) rfl)
theorem wd_584 : Cond.code yX2_kindOf cX2_kindOf 4 (some .int) ∈ wsL_law := inl_25 _ (List.mem_of_getElem? (i := 8) rfl)
theorem wd_585 : Cond.methodLink RX2 9 yX0_sumOf ∈ wsL_law := inl_25 _ (List.mem_of_getElem? (i := 9) rfl)
theorem wd_586 : Cond.methodLink RX2 15 yX0_get ∈ wsL_law := inl_25 _ (List.mem_of_getElem? (i := 10) rfl)
theorem wd_587 : Cond.methodLink RX2 20 yX2_isTurned ∈ wsL_law := inl_25 _ (List.mem_of_getElem? (i := 11) rfl)
theorem wd_588 : Cond.static yX2_isTurned ∈ wsL_law := inl_25 _ (List.mem_of_getElem? (i := 12) rfl)
theorem wd_589 : Cond.code yX2_isTurned cX2_isTurned 7 (some .boolean) ∈ wsL_law := inl_25 _ (List.mem_of_getElem? (i := 13) rfl)
theorem wd_590 : Cond.methodLink RX2 28 yX2_digitsOf ∈ wsL_law := inl_25 _ (List.mem_of_getElem? (i := 14) rfl)
theorem wd_591 : Cond.static yX2_digitsOf ∈ wsL_law := inl_25 _ (List.mem_of_getElem? (i := 15) rfl)
theorem wd_592 : Cond.code yX2_digitsOf cX2_digitsOf 1 (some .int) ∈ wsL_law := inl_25 _ (List.mem_of_getElem? (i := 16) rfl)
theorem wd_593 : Cond.methodLink RX2 24 yX2_hasItem ∈ wsL_law := inl_25 _ (List.mem_of_getElem? (i := 17) rfl)
theorem wd_594 : Cond.static yX2_hasItem ∈ wsL_law := inl_25 _ (List.mem_of_getElem? (i := 18) rfl)
theorem wd_595 : Cond.code yX2_hasItem cX2_hasItem 5 (some .boolean) ∈ wsL_law := inl_25 _ (List.mem_of_getElem? (i := 19) rfl)
theorem wd_596 : Cond.methodLink RX8 306 yX0_pageOfSlot ∈ wsL_law := inl_25 _ (List.mem_of_getElem? (i := 20) rfl)
theorem wd_597 : Cond.instanceMethod yX0_pageOfSlot ∈ wsL_law := inl_25 _ (List.mem_of_getElem? (i := 21) rfl)
theorem wd_598 : Cond.selects RX0 yX0_pageOfSlot yX0_pageOfSlot ∈ wsL_law := inl_25 _ (List.mem_of_getElem? (i := 22) rfl)
theorem wd_599 : Cond.code yX0_pageOfSlot cX0_pageOfSlot 2 (some .int) ∈ wsL_law := inl_25 _ (List.mem_of_getElem? (i := 23) rfl)
theorem wd_600 : Cond.methodLink RX8 309 yX0_hourOfSlot ∈ wsL_law := inl_26 _ (List.mem_of_getElem? (i := 0) rfl)
theorem wd_601 : Cond.instanceMethod yX0_hourOfSlot ∈ wsL_law := inl_26 _ (List.mem_of_getElem? (i := 1) rfl)
theorem wd_602 : Cond.selects RX0 yX0_hourOfSlot yX0_hourOfSlot ∈ wsL_law := inl_26 _ (List.mem_of_getElem? (i := 2) rfl)
theorem wd_603 : Cond.code yX0_hourOfSlot cX0_hourOfSlot 2 (some .int) ∈ wsL_law := inl_26 _ (List.mem_of_getElem? (i := 3) rfl)
theorem wd_604 : Cond.methodLink RX8 312 yX7_alikeTo ∈ wsL_law := inl_26 _ (List.mem_of_getElem? (i := 4) rfl)
theorem wd_605 : Cond.static yX7_alikeTo ∈ wsL_law := inl_26 _ (List.mem_of_getElem? (i := 5) rfl)
theorem wd_606 : Cond.code yX7_alikeTo cX7_alikeTo 7 (some .int) ∈ wsL_law := inl_26 _ (List.mem_of_getElem? (i := 6) rfl)
theorem wd_607 : Cond.methodLink RX7 36 yX0_get ∈ wsL_law := inl_26 _ (List.mem_of_getElem? (i := 7) rfl)
theorem wd_608 : Cond.methodLink RX7 19 yX0_isUsed ∈ wsL_law := inl_26 _ (List.mem_of_getElem? (i := 8) rfl)
theorem wd_609 : Cond.instanceMethod yX0_isUsed ∈ wsL_law := inl_26 _ (List.mem_of_getElem? (i := 9) rfl)
theorem wd_610 : Cond.selects RX0 yX0_isUsed yX0_isUsed ∈ wsL_law := inl_26 _ (List.mem_of_getElem? (i := 10) rfl)
theorem wd_611 : Cond.code yX0_isUsed cX0_isUsed 2 (some .boolean) ∈ wsL_law := inl_26 _ (List.mem_of_getElem? (i := 11) rfl)
theorem wd_612 : Cond.methodLink RX7 39 yX0_pieceOfSlot ∈ wsL_law := inl_26 _ (List.mem_of_getElem? (i := 12) rfl)
theorem wd_613 : Cond.static yX0_pieceOfSlot ∈ wsL_law := inl_26 _ (List.mem_of_getElem? (i := 13) rfl)
theorem wd_614 : Cond.code yX0_pieceOfSlot cX0_pieceOfSlot 1 (some .int) ∈ wsL_law := inl_26 _ (List.mem_of_getElem? (i := 14) rfl)
theorem wd_619 : Cond.methodLink RX9 170 yX9_tellsReceipt ∈ wsL_law := inl_26 _ (List.mem_of_getElem? (i := 19) rfl)
theorem wd_620 : Cond.instanceMethod yX9_tellsReceipt ∈ wsL_law := inl_26 _ (List.mem_of_getElem? (i := 20) rfl)
theorem wd_621 : Cond.selects RX9 yX9_tellsReceipt yX9_tellsReceipt ∈ wsL_law := inl_26 _ (List.mem_of_getElem? (i := 21) rfl)
theorem wd_622 : Cond.code yX9_tellsReceipt cX9_tellsReceipt 4 (some .int) ∈ wsL_law := inl_26 _ (List.mem_of_getElem? (i := 22) rfl)
theorem wd_623 : Cond.methodLink RX9 158 yX9_stateOf ∈ wsL_law := inl_26 _ (List.mem_of_getElem? (i := 23) rfl)
theorem wd_624 : Cond.instanceMethod yX9_stateOf ∈ wsL_law := inl_27 _ (List.mem_of_getElem? (i := 0) rfl)
theorem wd_625 : Cond.selects RX9 yX9_stateOf yX9_stateOf ∈ wsL_law := inl_27 _ (List.mem_of_getElem? (i := 1) rfl)
theorem wd_626 : Cond.code yX9_stateOf cX9_stateOf 9 (some .int) ∈ wsL_law := inl_27 _ (List.mem_of_getElem? (i := 2) rfl)
theorem wd_627 : Cond.methodLink RX9 50 yX9_isTurned ∈ wsL_law := inl_27 _ (List.mem_of_getElem? (i := 3) rfl)
theorem wd_628 : Cond.static yX9_isTurned ∈ wsL_law := inl_27 _ (List.mem_of_getElem? (i := 4) rfl)
theorem wd_629 : Cond.code yX9_isTurned cX9_isTurned 6 (some .boolean) ∈ wsL_law := inl_27 _ (List.mem_of_getElem? (i := 5) rfl)
theorem wd_630 : Cond.methodLink RX9 43 yX9_digits ∈ wsL_law := inl_27 _ (List.mem_of_getElem? (i := 6) rfl)
theorem wd_631 : Cond.static yX9_digits ∈ wsL_law := inl_27 _ (List.mem_of_getElem? (i := 7) rfl)
theorem wd_632 : Cond.code yX9_digits cX9_digits 1 (some .int) ∈ wsL_law := inl_27 _ (List.mem_of_getElem? (i := 8) rfl)
theorem wd_633 : Cond.methodLink RX9 161 yX9_pageOf ∈ wsL_law := inl_27 _ (List.mem_of_getElem? (i := 9) rfl)
theorem wd_634 : Cond.instanceMethod yX9_pageOf ∈ wsL_law := inl_27 _ (List.mem_of_getElem? (i := 10) rfl)
theorem wd_635 : Cond.selects RX9 yX9_pageOf yX9_pageOf ∈ wsL_law := inl_27 _ (List.mem_of_getElem? (i := 11) rfl)
theorem wd_636 : Cond.code yX9_pageOf cX9_pageOf 3 (some .int) ∈ wsL_law := inl_27 _ (List.mem_of_getElem? (i := 12) rfl)
theorem wd_637 : Cond.methodLink RX9 164 yX9_hourOf ∈ wsL_law := inl_27 _ (List.mem_of_getElem? (i := 13) rfl)
theorem wd_638 : Cond.instanceMethod yX9_hourOf ∈ wsL_law := inl_27 _ (List.mem_of_getElem? (i := 14) rfl)
theorem wd_639 : Cond.selects RX9 yX9_hourOf yX9_hourOf ∈ wsL_law := inl_27 _ (List.mem_of_getElem? (i := 15) rfl)
theorem wd_640 : Cond.code yX9_hourOf cX9_hourOf 3 (some .int) ∈ wsL_law := inl_27 _ (List.mem_of_getElem? (i := 16) rfl)
theorem wd_641 : Cond.methodLink RX9 167 yX9_alike ∈ wsL_law := inl_27 _ (List.mem_of_getElem? (i := 17) rfl)
theorem wd_642 : Cond.instanceMethod yX9_alike ∈ wsL_law := inl_27 _ (List.mem_of_getElem? (i := 18) rfl)
theorem wd_643 : Cond.selects RX9 yX9_alike yX9_alike ∈ wsL_law := inl_27 _ (List.mem_of_getElem? (i := 19) rfl)
theorem wd_644 : Cond.code yX9_alike cX9_alike 7 (some .int) ∈ wsL_law := inl_27 _ (List.mem_of_getElem? (i := 20) rfl)
theorem wd_645 : Cond.methodLink RX9 155 yX9_shopOf ∈ wsL_law := inl_27 _ (List.mem_of_getElem? (i := 21) rfl)
theorem wd_646 : Cond.instanceMethod yX9_shopOf ∈ wsL_law := inl_27 _ (List.mem_of_getElem? (i := 22) rfl)
theorem wd_647 : Cond.selects RX9 yX9_shopOf yX9_shopOf ∈ wsL_law := inl_27 _ (List.mem_of_getElem? (i := 23) rfl)
theorem wd_648 : Cond.code yX9_shopOf cX9_shopOf 3 (some .int) ∈ wsL_law := inl_28 _ (List.mem_of_getElem? (i := 0) rfl)
theorem wd_656 : Cond.methodLink RX8 162 yX7_numberOfPage ∈ wsL_law := inl_28 _ (List.mem_of_getElem? (i := 8) rfl)
theorem wd_657 : Cond.static yX7_numberOfPage ∈ wsL_law := inl_28 _ (List.mem_of_getElem? (i := 9) rfl)
theorem wd_658 : Cond.code yX7_numberOfPage cX7_numberOfPage 5 (some .int) ∈ wsL_law := inl_28 _ (List.mem_of_getElem? (i := 10) rfl)
theorem wd_659 : Cond.methodLink RX7 47 yX0_pageOfSlot ∈ wsL_law := inl_28 _ (List.mem_of_getElem? (i := 11) rfl)
theorem wd_660 : Cond.methodLink RX7 55 yX7_sizeHidden ∈ wsL_law := inl_28 _ (List.mem_of_getElem? (i := 12) rfl)
theorem wd_661 : Cond.static yX7_sizeHidden ∈ wsL_law := inl_28 _ (List.mem_of_getElem? (i := 13) rfl)
theorem wd_662 : Cond.code yX7_sizeHidden cX7_sizeHidden 2 (some .int) ∈ wsL_law := inl_28 _ (List.mem_of_getElem? (i := 14) rfl)
theorem wd_663 : Cond.methodLink RX7 61 Lib.Math.abs.name ∈ wsL_law := inl_28 _ (List.mem_of_getElem? (i := 15) rfl)
theorem wd_664 : Cond.static Lib.Math.abs.name ∈ wsL_law := inl_28 _ (List.mem_of_getElem? (i := 16) rfl)
theorem wd_665 : Cond.initialized "java/lang/Math" ∈ wsL_law := inl_28 _ (List.mem_of_getElem? (i := 17) rfl)
theorem wd_666 : Cond.code Lib.Math.abs.name Lib.Math.abs.code 1 (some .int) ∈ wsL_law := inl_28 _ (List.mem_of_getElem? (i := 18) rfl)
theorem wd_671 : Cond.methodLink RX9 174 yX9_tellsPage ∈ wsL_law := inl_28 _ (List.mem_of_getElem? (i := 23) rfl)
theorem wd_672 : Cond.instanceMethod yX9_tellsPage ∈ wsL_law := inl_29 _ (List.mem_of_getElem? (i := 0) rfl)
theorem wd_673 : Cond.selects RX9 yX9_tellsPage yX9_tellsPage ∈ wsL_law := inl_29 _ (List.mem_of_getElem? (i := 1) rfl)
theorem wd_674 : Cond.code yX9_tellsPage cX9_tellsPage 7 (some .int) ∈ wsL_law := inl_29 _ (List.mem_of_getElem? (i := 2) rfl)
theorem wd_682 : Cond.methodLink RX8 169 yX4_sort ∈ wsL_law := inl_29 _ (List.mem_of_getElem? (i := 10) rfl)
theorem wd_683 : Cond.instanceMethod yX4_sort ∈ wsL_law := inl_29 _ (List.mem_of_getElem? (i := 11) rfl)
theorem wd_684 : Cond.selects RX4 yX4_sort yX4_sort ∈ wsL_law := inl_29 _ (List.mem_of_getElem? (i := 12) rfl)
theorem wd_685 : Cond.code yX4_sort cX4_sort 3 none ∈ wsL_law := inl_29 _ (List.mem_of_getElem? (i := 13) rfl)
theorem wd_686 : Cond.methodLink RX4 19 yX0_isUsed ∈ wsL_law := inl_29 _ (List.mem_of_getElem? (i := 14) rfl)
theorem wd_687 : Cond.methodLink RX4 25 yX4_insert ∈ wsL_law := inl_29 _ (List.mem_of_getElem? (i := 15) rfl)
theorem wd_688 : Cond.instanceMethod yX4_insert ∈ wsL_law := inl_29 _ (List.mem_of_getElem? (i := 16) rfl)
theorem wd_689 : Cond.selects RX4 yX4_insert yX4_insert ∈ wsL_law := inl_29 _ (List.mem_of_getElem? (i := 17) rfl)
theorem wd_690 : Cond.code yX4_insert cX4_insert 5 none ∈ wsL_law := inl_29 _ (List.mem_of_getElem? (i := 18) rfl)
theorem wd_691 : Cond.methodLink RX4 29 yX0_get ∈ wsL_law := inl_29 _ (List.mem_of_getElem? (i := 19) rfl)
theorem wd_692 : Cond.methodLink RX4 33 yX4_slotInOrder ∈ wsL_law := inl_29 _ (List.mem_of_getElem? (i := 20) rfl)
theorem wd_693 : Cond.instanceMethod yX4_slotInOrder ∈ wsL_law := inl_29 _ (List.mem_of_getElem? (i := 21) rfl)
theorem wd_694 : Cond.selects RX4 yX4_slotInOrder yX4_slotInOrder ∈ wsL_law := inl_29 _ (List.mem_of_getElem? (i := 22) rfl)
theorem wd_695 : Cond.code yX4_slotInOrder cX4_slotInOrder 2 (some .int) ∈ wsL_law := inl_29 _ (List.mem_of_getElem? (i := 23) rfl)
theorem wd_696 : Cond.methodLink RX4 36 yX4_put ∈ wsL_law := inl_30 _ (List.mem_of_getElem? (i := 0) rfl)
theorem wd_697 : Cond.instanceMethod yX4_put ∈ wsL_law := inl_30 _ (List.mem_of_getElem? (i := 1) rfl)
theorem wd_698 : Cond.selects RX4 yX4_put yX4_put ∈ wsL_law := inl_30 _ (List.mem_of_getElem? (i := 2) rfl)
theorem wd_699 : Cond.code yX4_put cX4_put 3 none ∈ wsL_law := inl_30 _ (List.mem_of_getElem? (i := 3) rfl)
theorem wd_700 : Cond.methodLink RX8 173 yX4_slotAt ∈ wsL_law := inl_30 _ (List.mem_of_getElem? (i := 4) rfl)
theorem wd_701 : Cond.instanceMethod yX4_slotAt ∈ wsL_law := inl_30 _ (List.mem_of_getElem? (i := 5) rfl)
theorem wd_702 : Cond.selects RX4 yX4_slotAt yX4_slotAt ∈ wsL_law := inl_30 _ (List.mem_of_getElem? (i := 6) rfl)
theorem wd_703 : Cond.code yX4_slotAt cX4_slotAt 7 (some .int) ∈ wsL_law := inl_30 _ (List.mem_of_getElem? (i := 7) rfl)
theorem wd_704 : Cond.methodLink RX4 40 yX0_pageOfSlot ∈ wsL_law := inl_30 _ (List.mem_of_getElem? (i := 8) rfl)
theorem wd_705 : Cond.methodLink RX8 176 yX0_pieceOfSlot ∈ wsL_law := inl_30 _ (List.mem_of_getElem? (i := 9) rfl)
theorem wd_706 : Cond.methodLink RX8 179 yX0_numberOfSlot ∈ wsL_law := inl_30 _ (List.mem_of_getElem? (i := 10) rfl)
theorem wd_707 : Cond.static yX0_numberOfSlot ∈ wsL_law := inl_30 _ (List.mem_of_getElem? (i := 11) rfl)
theorem wd_708 : Cond.code yX0_numberOfSlot cX0_numberOfSlot 1 (some .int) ∈ wsL_law := inl_30 _ (List.mem_of_getElem? (i := 12) rfl)
theorem wd_713 : Cond.methodLink RX9 180 yX9_tellsLine ∈ wsL_law := inl_30 _ (List.mem_of_getElem? (i := 17) rfl)
theorem wd_714 : Cond.instanceMethod yX9_tellsLine ∈ wsL_law := inl_30 _ (List.mem_of_getElem? (i := 18) rfl)
theorem wd_715 : Cond.selects RX9 yX9_tellsLine yX9_tellsLine ∈ wsL_law := inl_30 _ (List.mem_of_getElem? (i := 19) rfl)
theorem wd_716 : Cond.code yX9_tellsLine cX9_tellsLine 6 (some .int) ∈ wsL_law := inl_30 _ (List.mem_of_getElem? (i := 20) rfl)
theorem wd_717 : Cond.methodLink RX9 177 yX9_rankOf ∈ wsL_law := inl_30 _ (List.mem_of_getElem? (i := 21) rfl)
theorem wd_718 : Cond.instanceMethod yX9_rankOf ∈ wsL_law := inl_30 _ (List.mem_of_getElem? (i := 22) rfl)
theorem wd_719 : Cond.selects RX9 yX9_rankOf yX9_rankOf ∈ wsL_law := inl_30 _ (List.mem_of_getElem? (i := 23) rfl)
theorem wd_720 : Cond.code yX9_rankOf cX9_rankOf 8 (some .int) ∈ wsL_law := inl_31 _ (List.mem_of_getElem? (i := 0) rfl)
theorem wd_728 : Cond.methodLink RX8 182 yX7_shopHourSum ∈ wsL_law := inl_31 _ (List.mem_of_getElem? (i := 8) rfl)
theorem wd_729 : Cond.static yX7_shopHourSum ∈ wsL_law := inl_31 _ (List.mem_of_getElem? (i := 9) rfl)
theorem wd_730 : Cond.code yX7_shopHourSum cX7_shopHourSum 5 (some .int) ∈ wsL_law := inl_31 _ (List.mem_of_getElem? (i := 10) rfl)
theorem wd_731 : Cond.methodLink RX7 58 yX0_hourOfSlot ∈ wsL_law := inl_31 _ (List.mem_of_getElem? (i := 11) rfl)
theorem wd_736 : Cond.methodLink RX9 183 yX9_sumBy ∈ wsL_law := inl_31 _ (List.mem_of_getElem? (i := 16) rfl)
theorem wd_737 : Cond.instanceMethod yX9_sumBy ∈ wsL_law := inl_31 _ (List.mem_of_getElem? (i := 17) rfl)
theorem wd_738 : Cond.selects RX9 yX9_sumBy yX9_sumBy ∈ wsL_law := inl_31 _ (List.mem_of_getElem? (i := 18) rfl)
theorem wd_739 : Cond.code yX9_sumBy cX9_sumBy 7 (some .int) ∈ wsL_law := inl_31 _ (List.mem_of_getElem? (i := 19) rfl)
theorem wd_747 : Cond.methodLink RX8 185 yX8_overallNumber ∈ wsL_law := inl_32 _ (List.mem_of_getElem? (i := 3) rfl)
theorem wd_748 : Cond.instanceMethod yX8_overallNumber ∈ wsL_law := inl_32 _ (List.mem_of_getElem? (i := 4) rfl)
theorem wd_749 : Cond.selects RX8 yX8_overallNumber yX8_overallNumber ∈ wsL_law := inl_32 _ (List.mem_of_getElem? (i := 5) rfl)
theorem wd_750 : Cond.code yX8_overallNumber cX8_overallNumber 2 (some .int) ∈ wsL_law := inl_32 _ (List.mem_of_getElem? (i := 6) rfl)
theorem wd_751 : Cond.methodLink RX8 315 yX0_joins ∈ wsL_law := inl_32 _ (List.mem_of_getElem? (i := 7) rfl)
theorem wd_752 : Cond.instanceMethod yX0_joins ∈ wsL_law := inl_32 _ (List.mem_of_getElem? (i := 8) rfl)
theorem wd_753 : Cond.selects RX0 yX0_joins yX0_joins ∈ wsL_law := inl_32 _ (List.mem_of_getElem? (i := 9) rfl)
theorem wd_754 : Cond.code yX0_joins cX0_joins 3 (some .int) ∈ wsL_law := inl_32 _ (List.mem_of_getElem? (i := 10) rfl)
theorem wd_755 : Cond.methodLink RX8 318 yX7_receiptsOf ∈ wsL_law := inl_32 _ (List.mem_of_getElem? (i := 11) rfl)
theorem wd_756 : Cond.static yX7_receiptsOf ∈ wsL_law := inl_32 _ (List.mem_of_getElem? (i := 12) rfl)
theorem wd_757 : Cond.code yX7_receiptsOf cX7_receiptsOf 3 (some .int) ∈ wsL_law := inl_32 _ (List.mem_of_getElem? (i := 13) rfl)
theorem wd_758 : Cond.methodLink RX7 9 yX0_pieces ∈ wsL_law := inl_32 _ (List.mem_of_getElem? (i := 14) rfl)
theorem wd_759 : Cond.methodLink RX8 320 yX7_alikePairs ∈ wsL_law := inl_32 _ (List.mem_of_getElem? (i := 15) rfl)
theorem wd_760 : Cond.static yX7_alikePairs ∈ wsL_law := inl_32 _ (List.mem_of_getElem? (i := 16) rfl)
theorem wd_761 : Cond.code yX7_alikePairs cX7_alikePairs 3 (some .int) ∈ wsL_law := inl_32 _ (List.mem_of_getElem? (i := 17) rfl)
theorem wd_762 : Cond.methodLink RX7 42 yX7_alikeTo ∈ wsL_law := inl_32 _ (List.mem_of_getElem? (i := 18) rfl)
theorem wd_763 : Cond.methodLink RX8 323 yX7_pagesUsed ∈ wsL_law := inl_32 _ (List.mem_of_getElem? (i := 19) rfl)
theorem wd_764 : Cond.static yX7_pagesUsed ∈ wsL_law := inl_32 _ (List.mem_of_getElem? (i := 20) rfl)
theorem wd_765 : Cond.code yX7_pagesUsed cX7_pagesUsed 3 (some .int) ∈ wsL_law := inl_32 _ (List.mem_of_getElem? (i := 21) rfl)
theorem wd_766 : Cond.methodLink RX7 50 yJ6_bitCount_0f7a4 ∈ wsL_law := inl_32 _ (List.mem_of_getElem? (i := 22) rfl)
theorem wd_767 : Cond.methodLink RX8 326 yX7_receiptsOfKind ∈ wsL_law := inl_32 _ (List.mem_of_getElem? (i := 23) rfl)
theorem wd_768 : Cond.static yX7_receiptsOfKind ∈ wsL_law := inl_33 _ (List.mem_of_getElem? (i := 0) rfl)
theorem wd_769 : Cond.code yX7_receiptsOfKind cX7_receiptsOfKind 4 (some .int) ∈ wsL_law := inl_33 _ (List.mem_of_getElem? (i := 1) rfl)
theorem wd_770 : Cond.methodLink RX7 23 yX2_kindOf ∈ wsL_law := inl_33 _ (List.mem_of_getElem? (i := 2) rfl)
theorem wd_775 : Cond.methodLink RX9 195 yX9_counts ∈ wsL_law := inl_33 _ (List.mem_of_getElem? (i := 7) rfl)
theorem wd_776 : Cond.instanceMethod yX9_counts ∈ wsL_law := inl_33 _ (List.mem_of_getElem? (i := 8) rfl)
theorem wd_777 : Cond.selects RX9 yX9_counts yX9_counts ∈ wsL_law := inl_33 _ (List.mem_of_getElem? (i := 9) rfl)
theorem wd_778 : Cond.code yX9_counts cX9_counts 2 (some .int) ∈ wsL_law := inl_33 _ (List.mem_of_getElem? (i := 10) rfl)
theorem wd_779 : Cond.methodLink RX9 186 yX9_joined ∈ wsL_law := inl_33 _ (List.mem_of_getElem? (i := 11) rfl)
theorem wd_780 : Cond.instanceMethod yX9_joined ∈ wsL_law := inl_33 _ (List.mem_of_getElem? (i := 12) rfl)
theorem wd_781 : Cond.selects RX9 yX9_joined yX9_joined ∈ wsL_law := inl_33 _ (List.mem_of_getElem? (i := 13) rfl)
theorem wd_782 : Cond.code yX9_joined cX9_joined 3 (some .int) ∈ wsL_law := inl_33 _ (List.mem_of_getElem? (i := 14) rfl)
theorem wd_783 : Cond.methodLink RX9 189 yX9_overReceipts ∈ wsL_law := inl_33 _ (List.mem_of_getElem? (i := 15) rfl)
theorem wd_784 : Cond.instanceMethod yX9_overReceipts ∈ wsL_law := inl_33 _ (List.mem_of_getElem? (i := 16) rfl)
theorem wd_785 : Cond.selects RX9 yX9_overReceipts yX9_overReceipts ∈ wsL_law := inl_33 _ (List.mem_of_getElem? (i := 17) rfl)
theorem wd_786 : Cond.code yX9_overReceipts cX9_overReceipts 5 (some .int) ∈ wsL_law := inl_33 _ (List.mem_of_getElem? (i := 18) rfl)
theorem wd_787 : Cond.methodLink RX9 192 yX9_pages ∈ wsL_law := inl_33 _ (List.mem_of_getElem? (i := 19) rfl)
theorem wd_788 : Cond.instanceMethod yX9_pages ∈ wsL_law := inl_33 _ (List.mem_of_getElem? (i := 20) rfl)
theorem wd_789 : Cond.selects RX9 yX9_pages yX9_pages ∈ wsL_law := inl_33 _ (List.mem_of_getElem? (i := 21) rfl)
theorem wd_790 : Cond.code yX9_pages cX9_pages 3 (some .int) ∈ wsL_law := inl_33 _ (List.mem_of_getElem? (i := 22) rfl)
theorem wd_809 : Cond.methodLink RX8 188 yX5_search ∈ wsL_law := inl_34 _ (List.mem_of_getElem? (i := 17) rfl)
theorem wd_810 : Cond.instanceMethod yX5_search ∈ wsL_law := inl_34 _ (List.mem_of_getElem? (i := 18) rfl)
theorem wd_811 : Cond.selects RX5 yX5_search yX5_search ∈ wsL_law := inl_34 _ (List.mem_of_getElem? (i := 19) rfl)
theorem wd_812 : Cond.code yX5_search cX5_search 3 none ∈ wsL_law := inl_34 _ (List.mem_of_getElem? (i := 20) rfl)
theorem wd_813 : Cond.methodLink RX5 42 Lib.Math.min.name ∈ wsL_law := inl_34 _ (List.mem_of_getElem? (i := 21) rfl)
theorem wd_814 : Cond.static Lib.Math.min.name ∈ wsL_law := inl_34 _ (List.mem_of_getElem? (i := 22) rfl)
theorem wd_815 : Cond.code Lib.Math.min.name Lib.Math.min.code 2 (some .int) ∈ wsL_law := inl_34 _ (List.mem_of_getElem? (i := 23) rfl)
theorem wd_816 : Cond.methodLink RX5 37 yX0_pieces ∈ wsL_law := inl_35 _ (List.mem_of_getElem? (i := 0) rfl)
theorem wd_817 : Cond.methodLink RX5 48 yX5_lookAt ∈ wsL_law := inl_35 _ (List.mem_of_getElem? (i := 1) rfl)
theorem wd_818 : Cond.instanceMethod yX5_lookAt ∈ wsL_law := inl_35 _ (List.mem_of_getElem? (i := 2) rfl)
theorem wd_819 : Cond.selects RX5 yX5_lookAt yX5_lookAt ∈ wsL_law := inl_35 _ (List.mem_of_getElem? (i := 3) rfl)
theorem wd_820 : Cond.code yX5_lookAt cX5_lookAt 9 none ∈ wsL_law := inl_35 _ (List.mem_of_getElem? (i := 4) rfl)
theorem wd_821 : Cond.methodLink RX5 66 Lib.Math.max.name ∈ wsL_law := inl_35 _ (List.mem_of_getElem? (i := 5) rfl)
theorem wd_822 : Cond.static Lib.Math.max.name ∈ wsL_law := inl_35 _ (List.mem_of_getElem? (i := 6) rfl)
theorem wd_823 : Cond.code Lib.Math.max.name Lib.Math.max.code 2 (some .int) ∈ wsL_law := inl_35 _ (List.mem_of_getElem? (i := 7) rfl)
theorem wd_824 : Cond.methodLink RX5 56 yX0_receiptsOf ∈ wsL_law := inl_35 _ (List.mem_of_getElem? (i := 8) rfl)
theorem wd_825 : Cond.methodLink RX5 60 yX0_slotOf ∈ wsL_law := inl_35 _ (List.mem_of_getElem? (i := 9) rfl)
theorem wd_826 : Cond.methodLink RX5 63 yX0_get ∈ wsL_law := inl_35 _ (List.mem_of_getElem? (i := 10) rfl)
theorem wd_827 : Cond.methodLink RX5 52 yX5_searchFrom ∈ wsL_law := inl_35 _ (List.mem_of_getElem? (i := 11) rfl)
theorem wd_828 : Cond.instanceMethod yX5_searchFrom ∈ wsL_law := inl_35 _ (List.mem_of_getElem? (i := 12) rfl)
theorem wd_829 : Cond.selects RX5 yX5_searchFrom yX5_searchFrom ∈ wsL_law := inl_35 _ (List.mem_of_getElem? (i := 13) rfl)
theorem wd_830 : Cond.code yX5_searchFrom cX5_searchFrom 4 none ∈ wsL_law := inl_35 _ (List.mem_of_getElem? (i := 14) rfl)
theorem wd_831 : Cond.methodLink RX5 69 yJ7_fill_53178 ∈ wsL_law := inl_35 _ (List.mem_of_getElem? (i := 15) rfl)
theorem wd_832 : Cond.static yJ7_fill_53178 ∈ wsL_law := inl_35 _ (List.mem_of_getElem? (i := 16) rfl)
theorem wd_833 : Cond.initialized RJ7 ∈ wsL_law := inl_35 _ (List.mem_of_getElem? (i := 17) rfl)
theorem wd_834 : Cond.code yJ7_fill_53178 cJ7_fill_53178 4 none ∈ wsL_law := inl_35 _ (List.mem_of_getElem? (i := 18) rfl)
theorem wd_835 : Cond.methodLink RX5 75 yX5_take ∈ wsL_law := inl_35 _ (List.mem_of_getElem? (i := 19) rfl)
theorem wd_836 : Cond.instanceMethod yX5_take ∈ wsL_law := inl_35 _ (List.mem_of_getElem? (i := 20) rfl)
theorem wd_837 : Cond.selects RX5 yX5_take yX5_take ∈ wsL_law := inl_35 _ (List.mem_of_getElem? (i := 21) rfl)
theorem wd_838 : Cond.code yX5_take cX5_take 5 none ∈ wsL_law := inl_35 _ (List.mem_of_getElem? (i := 22) rfl)
theorem wd_839 : Cond.methodLink RX5 82 yJ6_bitCount_0f7a4 ∈ wsL_law := inl_35 _ (List.mem_of_getElem? (i := 23) rfl)
theorem wd_840 : Cond.methodLink RX5 79 yX5_grow ∈ wsL_law := inl_36 _ (List.mem_of_getElem? (i := 0) rfl)
theorem wd_841 : Cond.instanceMethod yX5_grow ∈ wsL_law := inl_36 _ (List.mem_of_getElem? (i := 1) rfl)
theorem wd_842 : Cond.selects RX5 yX5_grow yX5_grow ∈ wsL_law := inl_36 _ (List.mem_of_getElem? (i := 2) rfl)
theorem wd_843 : Cond.code yX5_grow cX5_grow 4 none ∈ wsL_law := inl_36 _ (List.mem_of_getElem? (i := 3) rfl)
theorem wd_844 : Cond.methodLink RX8 191 yX5_length ∈ wsL_law := inl_36 _ (List.mem_of_getElem? (i := 4) rfl)
theorem wd_845 : Cond.instanceMethod yX5_length ∈ wsL_law := inl_36 _ (List.mem_of_getElem? (i := 5) rfl)
theorem wd_846 : Cond.selects RX5 yX5_length yX5_length ∈ wsL_law := inl_36 _ (List.mem_of_getElem? (i := 6) rfl)
theorem wd_847 : Cond.code yX5_length cX5_length 1 (some .int) ∈ wsL_law := inl_36 _ (List.mem_of_getElem? (i := 7) rfl)
theorem wd_848 : Cond.methodLink RX8 192 yX5_first ∈ wsL_law := inl_36 _ (List.mem_of_getElem? (i := 8) rfl)
theorem wd_849 : Cond.instanceMethod yX5_first ∈ wsL_law := inl_36 _ (List.mem_of_getElem? (i := 9) rfl)
theorem wd_850 : Cond.selects RX5 yX5_first yX5_first ∈ wsL_law := inl_36 _ (List.mem_of_getElem? (i := 10) rfl)
theorem wd_851 : Cond.code yX5_first cX5_first 1 (some .int) ∈ wsL_law := inl_36 _ (List.mem_of_getElem? (i := 11) rfl)
theorem wd_852 : Cond.methodLink RX8 195 yX5_last ∈ wsL_law := inl_36 _ (List.mem_of_getElem? (i := 12) rfl)
theorem wd_853 : Cond.instanceMethod yX5_last ∈ wsL_law := inl_36 _ (List.mem_of_getElem? (i := 13) rfl)
theorem wd_854 : Cond.selects RX5 yX5_last yX5_last ∈ wsL_law := inl_36 _ (List.mem_of_getElem? (i := 14) rfl)
theorem wd_855 : Cond.code yX5_last cX5_last 1 (some .int) ∈ wsL_law := inl_36 _ (List.mem_of_getElem? (i := 15) rfl)
theorem wd_860 : Cond.methodLink RX9 204 yX9_tellsLongest ∈ wsL_law := inl_36 _ (List.mem_of_getElem? (i := 20) rfl)
theorem wd_861 : Cond.instanceMethod yX9_tellsLongest ∈ wsL_law := inl_36 _ (List.mem_of_getElem? (i := 21) rfl)
theorem wd_862 : Cond.selects RX9 yX9_tellsLongest yX9_tellsLongest ∈ wsL_law := inl_36 _ (List.mem_of_getElem? (i := 22) rfl)
theorem wd_863 : Cond.code yX9_tellsLongest cX9_tellsLongest 9 (some .int) ∈ wsL_law := inl_36 _ (List.mem_of_getElem? (i := 23) rfl)
theorem wd_864 : Cond.methodLink RX9 201 yX9_laysRows ∈ wsL_law := inl_37 _ (List.mem_of_getElem? (i := 0) rfl)
theorem wd_865 : Cond.instanceMethod yX9_laysRows ∈ wsL_law := inl_37 _ (List.mem_of_getElem? (i := 1) rfl)
theorem wd_866 : Cond.selects RX9 yX9_laysRows yX9_laysRows ∈ wsL_law := inl_37 _ (List.mem_of_getElem? (i := 2) rfl)
theorem wd_867 : Cond.code yX9_laysRows cX9_laysRows 4 none ∈ wsL_law := inl_37 _ (List.mem_of_getElem? (i := 3) rfl)
theorem wd_868 : Cond.methodLink RX9 198 yX9_goesOn ∈ wsL_law := inl_37 _ (List.mem_of_getElem? (i := 4) rfl)
theorem wd_869 : Cond.instanceMethod yX9_goesOn ∈ wsL_law := inl_37 _ (List.mem_of_getElem? (i := 5) rfl)
theorem wd_870 : Cond.selects RX9 yX9_goesOn yX9_goesOn ∈ wsL_law := inl_37 _ (List.mem_of_getElem? (i := 6) rfl)
theorem wd_871 : Cond.code yX9_goesOn cX9_goesOn 7 (some .boolean) ∈ wsL_law := inl_37 _ (List.mem_of_getElem? (i := 7) rfl)
theorem wd_876 : Cond.methodLink RX8 198 yX7_hiddenBy ∈ wsL_law := inl_37 _ (List.mem_of_getElem? (i := 12) rfl)
theorem wd_877 : Cond.static yX7_hiddenBy ∈ wsL_law := inl_37 _ (List.mem_of_getElem? (i := 13) rfl)
theorem wd_878 : Cond.code yX7_hiddenBy cX7_hiddenBy 4 (some .int) ∈ wsL_law := inl_37 _ (List.mem_of_getElem? (i := 14) rfl)
theorem wd_883 : Cond.methodLink RX9 210 yX9_wrongOf ∈ wsL_law := inl_37 _ (List.mem_of_getElem? (i := 19) rfl)
theorem wd_884 : Cond.instanceMethod yX9_wrongOf ∈ wsL_law := inl_37 _ (List.mem_of_getElem? (i := 20) rfl)
theorem wd_885 : Cond.selects RX9 yX9_wrongOf yX9_wrongOf ∈ wsL_law := inl_37 _ (List.mem_of_getElem? (i := 21) rfl)
theorem wd_886 : Cond.code yX9_wrongOf cX9_wrongOf 7 (some .int) ∈ wsL_law := inl_37 _ (List.mem_of_getElem? (i := 22) rfl)
theorem wd_887 : Cond.methodLink RX9 207 yX9_size ∈ wsL_law := inl_37 _ (List.mem_of_getElem? (i := 23) rfl)
theorem wd_888 : Cond.static yX9_size ∈ wsL_law := inl_38 _ (List.mem_of_getElem? (i := 0) rfl)
theorem wd_889 : Cond.code yX9_size cX9_size 1 (some .int) ∈ wsL_law := inl_38 _ (List.mem_of_getElem? (i := 1) rfl)
theorem wd_894 : Cond.methodLink RX8 202 yX7_leastTrusted ∈ wsL_law := inl_38 _ (List.mem_of_getElem? (i := 6) rfl)
theorem wd_895 : Cond.static yX7_leastTrusted ∈ wsL_law := inl_38 _ (List.mem_of_getElem? (i := 7) rfl)
theorem wd_896 : Cond.code yX7_leastTrusted cX7_leastTrusted 7 (some .int) ∈ wsL_law := inl_38 _ (List.mem_of_getElem? (i := 8) rfl)
theorem wd_897 : Cond.methodLink RX7 66 yX7_notRightOf ∈ wsL_law := inl_38 _ (List.mem_of_getElem? (i := 9) rfl)
theorem wd_898 : Cond.static yX7_notRightOf ∈ wsL_law := inl_38 _ (List.mem_of_getElem? (i := 10) rfl)
theorem wd_899 : Cond.code yX7_notRightOf cX7_notRightOf 4 (some .int) ∈ wsL_law := inl_38 _ (List.mem_of_getElem? (i := 11) rfl)
theorem wd_900 : Cond.methodLink RX7 69 yX7_hiddenBy ∈ wsL_law := inl_38 _ (List.mem_of_getElem? (i := 12) rfl)
theorem wd_905 : Cond.methodLink RX9 214 yX9_suspected ∈ wsL_law := inl_38 _ (List.mem_of_getElem? (i := 17) rfl)
theorem wd_906 : Cond.instanceMethod yX9_suspected ∈ wsL_law := inl_38 _ (List.mem_of_getElem? (i := 18) rfl)
theorem wd_907 : Cond.selects RX9 yX9_suspected yX9_suspected ∈ wsL_law := inl_38 _ (List.mem_of_getElem? (i := 19) rfl)
theorem wd_908 : Cond.code yX9_suspected cX9_suspected 7 (some .int) ∈ wsL_law := inl_38 _ (List.mem_of_getElem? (i := 20) rfl)
theorem wd_913 : Cond.methodLink RX8 205 yX7_shareOfRight ∈ wsL_law := inl_39 _ (List.mem_of_getElem? (i := 1) rfl)
theorem wd_914 : Cond.static yX7_shareOfRight ∈ wsL_law := inl_39 _ (List.mem_of_getElem? (i := 2) rfl)
theorem wd_915 : Cond.code yX7_shareOfRight cX7_shareOfRight 2 (some .double) ∈ wsL_law := inl_39 _ (List.mem_of_getElem? (i := 3) rfl)
theorem wd_916 : Cond.methodLink RX7 72 yX7_receiptsOf ∈ wsL_law := inl_39 _ (List.mem_of_getElem? (i := 4) rfl)
theorem wd_917 : Cond.methodLink RX7 75 yX7_receiptsOfKind ∈ wsL_law := inl_39 _ (List.mem_of_getElem? (i := 5) rfl)
theorem wd_922 : Cond.methodLink RX9 217 yX9_share ∈ wsL_law := inl_39 _ (List.mem_of_getElem? (i := 10) rfl)
theorem wd_923 : Cond.instanceMethod yX9_share ∈ wsL_law := inl_39 _ (List.mem_of_getElem? (i := 11) rfl)
theorem wd_924 : Cond.selects RX9 yX9_share yX9_share ∈ wsL_law := inl_39 _ (List.mem_of_getElem? (i := 12) rfl)
theorem wd_925 : Cond.code yX9_share cX9_share 2 (some .double) ∈ wsL_law := inl_39 _ (List.mem_of_getElem? (i := 13) rfl)
theorem wd_930 : Cond.constantLong RX8 209 (2897) ∈ wsL_law := inl_39 _ (List.mem_of_getElem? (i := 18) rfl)
theorem wd_931 : Cond.methodLink RX8 211 yX8_hashWithNumbers ∈ wsL_law := inl_39 _ (List.mem_of_getElem? (i := 19) rfl)
theorem wd_932 : Cond.instanceMethod yX8_hashWithNumbers ∈ wsL_law := inl_39 _ (List.mem_of_getElem? (i := 20) rfl)
theorem wd_933 : Cond.selects RX8 yX8_hashWithNumbers yX8_hashWithNumbers ∈ wsL_law := inl_39 _ (List.mem_of_getElem? (i := 21) rfl)
theorem wd_934 : Cond.code yX8_hashWithNumbers cX8_hashWithNumbers 6 (some .long) ∈ wsL_law := inl_39 _ (List.mem_of_getElem? (i := 22) rfl)
theorem wd_935 : Cond.methodLink RX8 230 yX8_mixed ∈ wsL_law := inl_39 _ (List.mem_of_getElem? (i := 23) rfl)
theorem wd_936 : Cond.static yX8_mixed ∈ wsL_law := inl_40 _ (List.mem_of_getElem? (i := 0) rfl)
theorem wd_937 : Cond.code yX8_mixed cX8_mixed 4 (some .long) ∈ wsL_law := inl_40 _ (List.mem_of_getElem? (i := 1) rfl)
theorem wd_938 : Cond.constantLong RX8 329 (31) ∈ wsL_law := inl_40 _ (List.mem_of_getElem? (i := 2) rfl)
theorem wd_939 : Cond.methodLink RX8 215 yX8_hashWithPieces ∈ wsL_law := inl_40 _ (List.mem_of_getElem? (i := 3) rfl)
theorem wd_940 : Cond.instanceMethod yX8_hashWithPieces ∈ wsL_law := inl_40 _ (List.mem_of_getElem? (i := 4) rfl)
theorem wd_941 : Cond.selects RX8 yX8_hashWithPieces yX8_hashWithPieces ∈ wsL_law := inl_40 _ (List.mem_of_getElem? (i := 5) rfl)
theorem wd_942 : Cond.code yX8_hashWithPieces cX8_hashWithPieces 8 (some .long) ∈ wsL_law := inl_40 _ (List.mem_of_getElem? (i := 6) rfl)
theorem wd_943 : Cond.methodLink RX8 218 yX8_hashWithFits ∈ wsL_law := inl_40 _ (List.mem_of_getElem? (i := 7) rfl)
theorem wd_944 : Cond.instanceMethod yX8_hashWithFits ∈ wsL_law := inl_40 _ (List.mem_of_getElem? (i := 8) rfl)
theorem wd_945 : Cond.selects RX8 yX8_hashWithFits yX8_hashWithFits ∈ wsL_law := inl_40 _ (List.mem_of_getElem? (i := 9) rfl)
theorem wd_946 : Cond.code yX8_hashWithFits cX8_hashWithFits 7 (some .long) ∈ wsL_law := inl_40 _ (List.mem_of_getElem? (i := 10) rfl)
theorem wd_947 : Cond.methodLink RX8 221 yX8_hashWithPages ∈ wsL_law := inl_40 _ (List.mem_of_getElem? (i := 11) rfl)
theorem wd_948 : Cond.instanceMethod yX8_hashWithPages ∈ wsL_law := inl_40 _ (List.mem_of_getElem? (i := 12) rfl)
theorem wd_949 : Cond.selects RX8 yX8_hashWithPages yX8_hashWithPages ∈ wsL_law := inl_40 _ (List.mem_of_getElem? (i := 13) rfl)
theorem wd_950 : Cond.code yX8_hashWithPages cX8_hashWithPages 8 (some .long) ∈ wsL_law := inl_40 _ (List.mem_of_getElem? (i := 14) rfl)
theorem wd_951 : Cond.methodLink RX8 331 yX4_receipts ∈ wsL_law := inl_40 _ (List.mem_of_getElem? (i := 15) rfl)
theorem wd_952 : Cond.instanceMethod yX4_receipts ∈ wsL_law := inl_40 _ (List.mem_of_getElem? (i := 16) rfl)
theorem wd_953 : Cond.selects RX4 yX4_receipts yX4_receipts ∈ wsL_law := inl_40 _ (List.mem_of_getElem? (i := 17) rfl)
theorem wd_954 : Cond.code yX4_receipts cX4_receipts 1 (some .int) ∈ wsL_law := inl_40 _ (List.mem_of_getElem? (i := 18) rfl)
theorem wd_955 : Cond.methodLink RX8 334 yX4_slotInOrder ∈ wsL_law := inl_40 _ (List.mem_of_getElem? (i := 19) rfl)
theorem wd_956 : Cond.methodLink RX8 224 yX8_hashWithSums ∈ wsL_law := inl_40 _ (List.mem_of_getElem? (i := 20) rfl)
theorem wd_957 : Cond.instanceMethod yX8_hashWithSums ∈ wsL_law := inl_40 _ (List.mem_of_getElem? (i := 21) rfl)
theorem wd_958 : Cond.selects RX8 yX8_hashWithSums yX8_hashWithSums ∈ wsL_law := inl_40 _ (List.mem_of_getElem? (i := 22) rfl)
theorem wd_959 : Cond.code yX8_hashWithSums cX8_hashWithSums 6 (some .long) ∈ wsL_law := inl_40 _ (List.mem_of_getElem? (i := 23) rfl)
theorem wd_960 : Cond.methodLink RX8 227 yX8_hashWithLongest ∈ wsL_law := inl_41 _ (List.mem_of_getElem? (i := 0) rfl)
theorem wd_961 : Cond.instanceMethod yX8_hashWithLongest ∈ wsL_law := inl_41 _ (List.mem_of_getElem? (i := 1) rfl)
theorem wd_962 : Cond.selects RX8 yX8_hashWithLongest yX8_hashWithLongest ∈ wsL_law := inl_41 _ (List.mem_of_getElem? (i := 2) rfl)
theorem wd_963 : Cond.code yX8_hashWithLongest cX8_hashWithLongest 5 (some .long) ∈ wsL_law := inl_41 _ (List.mem_of_getElem? (i := 3) rfl)
theorem wd_964 : Cond.methodLink RX8 234 yX7_bitsOf ∈ wsL_law := inl_41 _ (List.mem_of_getElem? (i := 4) rfl)
theorem wd_965 : Cond.static yX7_bitsOf ∈ wsL_law := inl_41 _ (List.mem_of_getElem? (i := 5) rfl)
theorem wd_966 : Cond.code yX7_bitsOf cX7_bitsOf 6 (some .long) ∈ wsL_law := inl_41 _ (List.mem_of_getElem? (i := 6) rfl)
theorem wd_967 : Cond.constantLong RX7 78 (1023) ∈ wsL_law := inl_41 _ (List.mem_of_getElem? (i := 7) rfl)
theorem wd_968 : Cond.constantDouble RX7 80 (4841369599423283200) ∈ wsL_law := inl_41 _ (List.mem_of_getElem? (i := 8) rfl)
theorem wd_969 : Cond.constantDouble RX7 82 (4611686018427387904) ∈ wsL_law := inl_41 _ (List.mem_of_getElem? (i := 9) rfl)
theorem wd_970 : Cond.methodLink RX8 238 yX8_hashWithBuffer ∈ wsL_law := inl_41 _ (List.mem_of_getElem? (i := 10) rfl)
theorem wd_971 : Cond.instanceMethod yX8_hashWithBuffer ∈ wsL_law := inl_41 _ (List.mem_of_getElem? (i := 11) rfl)
theorem wd_972 : Cond.selects RX8 yX8_hashWithBuffer yX8_hashWithBuffer ∈ wsL_law := inl_41 _ (List.mem_of_getElem? (i := 12) rfl)
theorem wd_973 : Cond.code yX8_hashWithBuffer cX8_hashWithBuffer 6 (some .long) ∈ wsL_law := inl_41 _ (List.mem_of_getElem? (i := 13) rfl)
theorem wd_978 : Cond.constantLong RX9 231 (2897) ∈ wsL_law := inl_41 _ (List.mem_of_getElem? (i := 18) rfl)
theorem wd_979 : Cond.fieldLink RX9 223 "NightDiaryModel" "hash" "J" ∈ wsL_law := inl_41 _ (List.mem_of_getElem? (i := 19) rfl)
theorem wd_980 : Cond.methodLink RX9 227 yX9_hashes ∈ wsL_law := inl_41 _ (List.mem_of_getElem? (i := 20) rfl)
theorem wd_981 : Cond.instanceMethod yX9_hashes ∈ wsL_law := inl_41 _ (List.mem_of_getElem? (i := 21) rfl)
theorem wd_982 : Cond.selects RX9 yX9_hashes yX9_hashes ∈ wsL_law := inl_41 _ (List.mem_of_getElem? (i := 22) rfl)
theorem wd_983 : Cond.code yX9_hashes cX9_hashes 3 none ∈ wsL_law := inl_41 _ (List.mem_of_getElem? (i := 23) rfl)
theorem wd_984 : Cond.constantLong RX9 221 (31) ∈ wsL_law := inl_42 _ (List.mem_of_getElem? (i := 0) rfl)
theorem wd_985 : Cond.methodLink RX9 233 yX9_hashesPieces ∈ wsL_law := inl_42 _ (List.mem_of_getElem? (i := 1) rfl)
theorem wd_986 : Cond.instanceMethod yX9_hashesPieces ∈ wsL_law := inl_42 _ (List.mem_of_getElem? (i := 2) rfl)
theorem wd_987 : Cond.selects RX9 yX9_hashesPieces yX9_hashesPieces ∈ wsL_law := inl_42 _ (List.mem_of_getElem? (i := 3) rfl)
theorem wd_988 : Cond.code yX9_hashesPieces cX9_hashesPieces 3 none ∈ wsL_law := inl_42 _ (List.mem_of_getElem? (i := 4) rfl)
theorem wd_989 : Cond.methodLink RX9 236 yX9_hashesPages ∈ wsL_law := inl_42 _ (List.mem_of_getElem? (i := 5) rfl)
theorem wd_990 : Cond.instanceMethod yX9_hashesPages ∈ wsL_law := inl_42 _ (List.mem_of_getElem? (i := 6) rfl)
theorem wd_991 : Cond.selects RX9 yX9_hashesPages yX9_hashesPages ∈ wsL_law := inl_42 _ (List.mem_of_getElem? (i := 7) rfl)
theorem wd_992 : Cond.code yX9_hashesPages cX9_hashesPages 3 none ∈ wsL_law := inl_42 _ (List.mem_of_getElem? (i := 8) rfl)
theorem wd_993 : Cond.methodLink RX9 239 yJxe99ae_doubleToLongBits_ccdee ∈ wsL_law := inl_42 _ (List.mem_of_getElem? (i := 9) rfl)
theorem wd_994 : Cond.static yJxe99ae_doubleToLongBits_ccdee ∈ wsL_law := inl_42 _ (List.mem_of_getElem? (i := 10) rfl)
theorem wd_995 : Cond.initialized RJxe99ae ∈ wsL_law := inl_42 _ (List.mem_of_getElem? (i := 11) rfl)
theorem wd_996 : Cond.code yJxe99ae_doubleToLongBits_ccdee cJxe99ae_doubleToLongBits_ccdee 2 (some .long) ∈ wsL_law := inl_42 _ (List.mem_of_getElem? (i := 12) rfl)
theorem wd_997 : Cond.methodLink RJxe99ae 134 ⟨"java/lang/Double", "doubleToRawLongBits", "(D)J"⟩ ∈ wsL_law := inl_42 _ (List.mem_of_getElem? (i := 13) rfl)
theorem wd_998 : Cond.native ⟨"java/lang/Double", "doubleToRawLongBits", "(D)J"⟩ ∈ wsL_law := inl_42 _ (List.mem_of_getElem? (i := 14) rfl)
theorem wd_999 : Cond.static ⟨"java/lang/Double", "doubleToRawLongBits", "(D)J"⟩ ∈ wsL_law := inl_42 _ (List.mem_of_getElem? (i := 15) rfl)
theorem wd_1001 : Cond.constantLong RJxe99ae 137 (9221120237041090560) ∈ wsL_law := inl_42 _ (List.mem_of_getElem? (i := 17) rfl)
theorem wd_1002 : Cond.methodLink RJxe99ae 122 yJxe99ae_isNaN_b9ae7 ∈ wsL_law := inl_42 _ (List.mem_of_getElem? (i := 18) rfl)
theorem wd_1003 : Cond.static yJxe99ae_isNaN_b9ae7 ∈ wsL_law := inl_42 _ (List.mem_of_getElem? (i := 19) rfl)
theorem wd_1004 : Cond.code yJxe99ae_isNaN_b9ae7 cJxe99ae_isNaN_b9ae7 2 (some .boolean) ∈ wsL_law := inl_42 _ (List.mem_of_getElem? (i := 20) rfl)
theorem is_J6_bitCount_0f7a4 : nd_is yJ6_bitCount_0f7a4 cJ6_bitCount_0f7a4 1 (some .int) 1 := ⟨by decide +kernel, wd_450, wd_451, wd_452⟩
theorem is_J7_fill_53178 : nd_is yJ7_fill_53178 cJ7_fill_53178 4 none 2 := ⟨by decide +kernel, wd_832, wd_833, wd_834⟩
theorem is_Jxe99ae_doubleToLongBits_ccdee : nd_is yJxe99ae_doubleToLongBits_ccdee cJxe99ae_doubleToLongBits_ccdee 2 (some .long) 1 := ⟨by decide +kernel, wd_994, wd_995, wd_996⟩
theorem is_Jxe99ae_isNaN_b9ae7 : nd_is yJxe99ae_isNaN_b9ae7 cJxe99ae_isNaN_b9ae7 2 (some .boolean) 1 := ⟨by decide +kernel, wd_1003, wd_995, wd_1004⟩
theorem iv_X0_addPiece : nd_iv yX0_addPiece RX0 cX0_addPiece 4 (some .int) 2 := ⟨by decide +kernel, wd_115, wd_116, wd_15, wd_117⟩
theorem iv_X0_firstOfRoll : nd_iv yX0_firstOfRoll RX0 cX0_firstOfRoll 5 (some .int) 1 := ⟨by decide +kernel, wd_385, wd_386, wd_15, wd_387⟩
theorem iv_X0_firstTimeFrom : nd_iv yX0_firstTimeFrom RX0 cX0_firstTimeFrom 4 (some .int) 1 := ⟨by decide +kernel, wd_240, wd_241, wd_15, wd_242⟩
theorem iv_X0_get : nd_iv yX0_get RX0 cX0_get 2 (some .int) 1 := ⟨by decide +kernel, wd_103, wd_104, wd_15, wd_105⟩
theorem iv_X0_hourOfSlot : nd_iv yX0_hourOfSlot RX0 cX0_hourOfSlot 2 (some .int) 1 := ⟨by decide +kernel, wd_601, wd_602, wd_15, wd_603⟩
theorem iv_X0_isUsed : nd_iv yX0_isUsed RX0 cX0_isUsed 2 (some .boolean) 1 := ⟨by decide +kernel, wd_609, wd_610, wd_15, wd_611⟩
theorem iv_X0_joins : nd_iv yX0_joins RX0 cX0_joins 3 (some .int) 0 := ⟨by decide +kernel, wd_752, wd_753, wd_15, wd_754⟩
theorem iv_X0_lastTimeUpTo : nd_iv yX0_lastTimeUpTo RX0 cX0_lastTimeUpTo 5 (some .int) 1 := ⟨by decide +kernel, wd_235, wd_236, wd_15, wd_237⟩
theorem iv_X0_link : nd_iv yX0_link RX0 cX0_link 3 none 2 := ⟨by decide +kernel, wd_391, wd_392, wd_15, wd_393⟩
theorem is_X0_numberOfSlot : nd_is yX0_numberOfSlot cX0_numberOfSlot 1 (some .int) 1 := ⟨by decide +kernel, wd_707, wd_15, wd_708⟩
theorem iv_X0_pageOfSlot : nd_iv yX0_pageOfSlot RX0 cX0_pageOfSlot 2 (some .int) 1 := ⟨by decide +kernel, wd_597, wd_598, wd_15, wd_599⟩
theorem is_X0_pieceOfSlot : nd_is yX0_pieceOfSlot cX0_pieceOfSlot 1 (some .int) 1 := ⟨by decide +kernel, wd_613, wd_15, wd_614⟩
theorem iv_X0_pieces : nd_iv yX0_pieces RX0 cX0_pieces 1 (some .int) 0 := ⟨by decide +kernel, wd_99, wd_100, wd_15, wd_101⟩
theorem iv_X0_piecesOfRoll : nd_iv yX0_piecesOfRoll RX0 cX0_piecesOfRoll 5 (some .int) 1 := ⟨by decide +kernel, wd_395, wd_396, wd_15, wd_397⟩
theorem iv_X0_receiptsOf : nd_iv yX0_receiptsOf RX0 cX0_receiptsOf 2 (some .int) 1 := ⟨by decide +kernel, wd_227, wd_228, wd_15, wd_229⟩
theorem iv_X0_restore : nd_iv yX0_restore RX0 cX0_restore 1 none 0 := ⟨by decide +kernel, wd_528, wd_529, wd_15, wd_530⟩
theorem iv_X0_save : nd_iv yX0_save RX0 cX0_save 1 none 0 := ⟨by decide +kernel, wd_107, wd_108, wd_15, wd_109⟩
theorem iv_X0_savedStates : nd_iv yX0_savedStates RX0 cX0_savedStates 1 (some .int) 0 := ⟨by decide +kernel, wd_524, wd_525, wd_15, wd_526⟩
theorem iv_X0_set : nd_iv yX0_set RX0 cX0_set 3 none 2 := ⟨by decide +kernel, wd_120, wd_121, wd_15, wd_122⟩
theorem is_X0_slotOf : nd_is yX0_slotOf cX0_slotOf 2 (some .int) 2 := ⟨by decide +kernel, wd_244, wd_15, wd_245⟩
theorem iv_X0_sumOf : nd_iv yX0_sumOf RX0 cX0_sumOf 5 (some .int) 1 := ⟨by decide +kernel, wd_338, wd_339, wd_15, wd_340⟩
theorem iv_X0_unlink : nd_iv yX0_unlink RX0 cX0_unlink 3 none 2 := ⟨by decide +kernel, wd_427, wd_428, wd_15, wd_429⟩
theorem iv_X1_add : nd_iv yX1_add RX1 cX1_add 2 none 1 := ⟨by decide +kernel, wd_493, wd_494, wd_19, wd_495⟩
theorem iv_X1_clear : nd_iv yX1_clear RX1 cX1_clear 1 none 0 := ⟨by decide +kernel, wd_264, wd_265, wd_19, wd_266⟩
theorem iv_X1_codeAt : nd_iv yX1_codeAt RX1 cX1_codeAt 2 (some .int) 1 := ⟨by decide +kernel, wd_182, wd_183, wd_19, wd_184⟩
theorem iv_X1_length : nd_iv yX1_length RX1 cX1_length 1 (some .int) 0 := ⟨by decide +kernel, wd_178, wd_179, wd_19, wd_180⟩
theorem is_X2_digitsOf : nd_is yX2_digitsOf cX2_digitsOf 1 (some .int) 1 := ⟨by decide +kernel, wd_591, wd_583, wd_592⟩
theorem is_X2_hasItem : nd_is yX2_hasItem cX2_hasItem 5 (some .boolean) 3 := ⟨by decide +kernel, wd_594, wd_583, wd_595⟩
theorem is_X2_isTurned : nd_is yX2_isTurned cX2_isTurned 7 (some .boolean) 2 := ⟨by decide +kernel, wd_588, wd_583, wd_589⟩
theorem is_X2_kindOf : nd_is yX2_kindOf cX2_kindOf 4 (some .int) 2 := ⟨by decide +kernel, wd_582, wd_583, wd_584⟩
theorem is_X3_joinAllClear : nd_is yX3_joinAllClear cX3_joinAllClear 4 (some .int) 1 := ⟨by decide +kernel, wd_439, wd_381, wd_440⟩
theorem is_X3_lowersOf : nd_is yX3_lowersOf cX3_lowersOf 4 (some .int) 2 := ⟨by decide +kernel, wd_446, wd_381, wd_447⟩
theorem is_X3_lowestClear : nd_is yX3_lowestClear cX3_lowestClear 3 (some .int) 1 := ⟨by decide +kernel, wd_442, wd_381, wd_443⟩
theorem is_X3_obstacle : nd_is yX3_obstacle cX3_obstacle 3 (some .int) 3 := ⟨by decide +kernel, wd_380, wd_381, wd_382⟩
theorem is_X3_uppersOf : nd_is yX3_uppersOf cX3_uppersOf 4 (some .int) 2 := ⟨by decide +kernel, wd_460, wd_381, wd_461⟩
theorem iv_X4_insert : nd_iv yX4_insert RX4 cX4_insert 5 none 2 := ⟨by decide +kernel, wd_688, wd_689, wd_27, wd_690⟩
theorem iv_X4_put : nd_iv yX4_put RX4 cX4_put 3 none 2 := ⟨by decide +kernel, wd_697, wd_698, wd_27, wd_699⟩
theorem iv_X4_receipts : nd_iv yX4_receipts RX4 cX4_receipts 1 (some .int) 0 := ⟨by decide +kernel, wd_952, wd_953, wd_27, wd_954⟩
theorem iv_X4_slotAt : nd_iv yX4_slotAt RX4 cX4_slotAt 7 (some .int) 3 := ⟨by decide +kernel, wd_701, wd_702, wd_27, wd_703⟩
theorem iv_X4_slotInOrder : nd_iv yX4_slotInOrder RX4 cX4_slotInOrder 2 (some .int) 1 := ⟨by decide +kernel, wd_693, wd_694, wd_27, wd_695⟩
theorem iv_X4_sort : nd_iv yX4_sort RX4 cX4_sort 3 none 1 := ⟨by decide +kernel, wd_683, wd_684, wd_27, wd_685⟩
theorem iv_X5_first : nd_iv yX5_first RX5 cX5_first 1 (some .int) 0 := ⟨by decide +kernel, wd_849, wd_850, wd_31, wd_851⟩
theorem iv_X5_grow : nd_iv yX5_grow RX5 cX5_grow 4 none 1 := ⟨by decide +kernel, wd_841, wd_842, wd_31, wd_843⟩
theorem iv_X5_last : nd_iv yX5_last RX5 cX5_last 1 (some .int) 0 := ⟨by decide +kernel, wd_853, wd_854, wd_31, wd_855⟩
theorem iv_X5_length : nd_iv yX5_length RX5 cX5_length 1 (some .int) 0 := ⟨by decide +kernel, wd_845, wd_846, wd_31, wd_847⟩
theorem iv_X5_lookAt : nd_iv yX5_lookAt RX5 cX5_lookAt 9 none 2 := ⟨by decide +kernel, wd_818, wd_819, wd_31, wd_820⟩
theorem iv_X5_search : nd_iv yX5_search RX5 cX5_search 3 none 1 := ⟨by decide +kernel, wd_810, wd_811, wd_31, wd_812⟩
theorem iv_X5_searchFrom : nd_iv yX5_searchFrom RX5 cX5_searchFrom 4 none 1 := ⟨by decide +kernel, wd_828, wd_829, wd_31, wd_830⟩
theorem iv_X5_take : nd_iv yX5_take RX5 cX5_take 5 none 2 := ⟨by decide +kernel, wd_836, wd_837, wd_31, wd_838⟩
theorem iv_X6_accept : nd_iv yX6_accept RX6 cX6_accept 2 (some .boolean) 1 := ⟨by decide +kernel, wd_186, wd_187, wd_23, wd_188⟩
theorem iv_X6_acceptDigit : nd_iv yX6_acceptDigit RX6 cX6_acceptDigit 3 (some .boolean) 1 := ⟨by decide +kernel, wd_190, wd_191, wd_23, wd_192⟩
theorem iv_X6_acceptMark : nd_iv yX6_acceptMark RX6 cX6_acceptMark 2 (some .boolean) 1 := ⟨by decide +kernel, wd_198, wd_199, wd_23, wd_200⟩
theorem iv_X6_begin : nd_iv yX6_begin RX6 cX6_begin 2 none 1 := ⟨by decide +kernel, wd_174, wd_175, wd_23, wd_176⟩
theorem iv_X6_endItem : nd_iv yX6_endItem RX6 cX6_endItem 2 (some .boolean) 1 := ⟨by decide +kernel, wd_210, wd_211, wd_23, wd_212⟩
theorem iv_X6_endShop : nd_iv yX6_endShop RX6 cX6_endShop 1 (some .boolean) 0 := ⟨by decide +kernel, wd_206, wd_207, wd_23, wd_208⟩
theorem iv_X6_endTime : nd_iv yX6_endTime RX6 cX6_endTime 1 (some .boolean) 0 := ⟨by decide +kernel, wd_202, wd_203, wd_23, wd_204⟩
theorem iv_X6_isAtEndOfReceipt : nd_iv yX6_isAtEndOfReceipt RX6 cX6_isAtEndOfReceipt 1 (some .boolean) 0 := ⟨by decide +kernel, wd_215, wd_216, wd_23, wd_217⟩
theorem iv_X6_itemAt : nd_iv yX6_itemAt RX6 cX6_itemAt 2 (some .int) 1 := ⟨by decide +kernel, wd_260, wd_261, wd_23, wd_262⟩
theorem iv_X6_items : nd_iv yX6_items RX6 cX6_items 1 (some .int) 0 := ⟨by decide +kernel, wd_256, wd_257, wd_23, wd_258⟩
theorem iv_X6_mostDigits : nd_iv yX6_mostDigits RX6 cX6_mostDigits 1 (some .int) 0 := ⟨by decide +kernel, wd_194, wd_195, wd_23, wd_196⟩
theorem iv_X6_printed : nd_iv yX6_printed RX6 cX6_printed 1 (some .int) 0 := ⟨by decide +kernel, wd_252, wd_253, wd_23, wd_254⟩
theorem iv_X6_restart : nd_iv yX6_restart RX6 cX6_restart 1 none 0 := ⟨by decide +kernel, wd_170, wd_171, wd_23, wd_172⟩
theorem iv_X6_shop : nd_iv yX6_shop RX6 cX6_shop 1 (some .int) 0 := ⟨by decide +kernel, wd_248, wd_249, wd_23, wd_250⟩
theorem iv_X6_time : nd_iv yX6_time RX6 cX6_time 1 (some .int) 0 := ⟨by decide +kernel, wd_231, wd_232, wd_23, wd_233⟩
theorem is_X7_alikePairs : nd_is yX7_alikePairs cX7_alikePairs 3 (some .int) 1 := ⟨by decide +kernel, wd_760, wd_553, wd_761⟩
theorem is_X7_alikeTo : nd_is yX7_alikeTo cX7_alikeTo 7 (some .int) 2 := ⟨by decide +kernel, wd_605, wd_553, wd_606⟩
theorem is_X7_bitsOf : nd_is yX7_bitsOf cX7_bitsOf 6 (some .long) 1 := ⟨by decide +kernel, wd_965, wd_553, wd_966⟩
theorem is_X7_hiddenBy : nd_is yX7_hiddenBy cX7_hiddenBy 4 (some .int) 2 := ⟨by decide +kernel, wd_877, wd_553, wd_878⟩
theorem is_X7_leastTrusted : nd_is yX7_leastTrusted cX7_leastTrusted 7 (some .int) 1 := ⟨by decide +kernel, wd_895, wd_553, wd_896⟩
theorem is_X7_notRightOf : nd_is yX7_notRightOf cX7_notRightOf 4 (some .int) 2 := ⟨by decide +kernel, wd_898, wd_553, wd_899⟩
theorem is_X7_numberOfPage : nd_is yX7_numberOfPage cX7_numberOfPage 5 (some .int) 3 := ⟨by decide +kernel, wd_657, wd_553, wd_658⟩
theorem is_X7_pagesUsed : nd_is yX7_pagesUsed cX7_pagesUsed 3 (some .int) 1 := ⟨by decide +kernel, wd_764, wd_553, wd_765⟩
theorem is_X7_receiptsOf : nd_is yX7_receiptsOf cX7_receiptsOf 3 (some .int) 1 := ⟨by decide +kernel, wd_756, wd_553, wd_757⟩
theorem is_X7_receiptsOfKind : nd_is yX7_receiptsOfKind cX7_receiptsOfKind 4 (some .int) 2 := ⟨by decide +kernel, wd_768, wd_553, wd_769⟩
theorem is_X7_shareOfRight : nd_is yX7_shareOfRight cX7_shareOfRight 2 (some .double) 1 := ⟨by decide +kernel, wd_914, wd_553, wd_915⟩
theorem is_X7_shopHourSum : nd_is yX7_shopHourSum cX7_shopHourSum 5 (some .int) 3 := ⟨by decide +kernel, wd_729, wd_553, wd_730⟩
theorem is_X7_sizeHidden : nd_is yX7_sizeHidden cX7_sizeHidden 2 (some .int) 2 := ⟨by decide +kernel, wd_661, wd_553, wd_662⟩
theorem is_X7_sumOfPiece : nd_is yX7_sumOfPiece cX7_sumOfPiece 4 (some .int) 2 := ⟨by decide +kernel, wd_552, wd_553, wd_554⟩
theorem iv_X8_addFromBuffer : nd_iv yX8_addFromBuffer RX8 cX8_addFromBuffer 5 (some .int) 1 := ⟨by decide +kernel, wd_219, wd_220, wd_2, wd_221⟩
theorem iv_X8_addRead : nd_iv yX8_addRead RX8 cX8_addRead 6 (some .boolean) 1 := ⟨by decide +kernel, wd_223, wd_224, wd_2, wd_225⟩
theorem iv_X8_bufferTellsReceipts : nd_iv yX8_bufferTellsReceipts RX8 cX8_bufferTellsReceipts 1 (some .boolean) 0 := ⟨by decide +kernel, wd_162, wd_163, wd_2, wd_164⟩
theorem iv_X8_hashWithBuffer : nd_iv yX8_hashWithBuffer RX8 cX8_hashWithBuffer 6 (some .long) 1 := ⟨by decide +kernel, wd_971, wd_972, wd_2, wd_973⟩
theorem iv_X8_hashWithFits : nd_iv yX8_hashWithFits RX8 cX8_hashWithFits 7 (some .long) 1 := ⟨by decide +kernel, wd_944, wd_945, wd_2, wd_946⟩
theorem iv_X8_hashWithLongest : nd_iv yX8_hashWithLongest RX8 cX8_hashWithLongest 5 (some .long) 1 := ⟨by decide +kernel, wd_961, wd_962, wd_2, wd_963⟩
theorem iv_X8_hashWithNumbers : nd_iv yX8_hashWithNumbers RX8 cX8_hashWithNumbers 6 (some .long) 1 := ⟨by decide +kernel, wd_932, wd_933, wd_2, wd_934⟩
theorem iv_X8_hashWithPages : nd_iv yX8_hashWithPages RX8 cX8_hashWithPages 8 (some .long) 1 := ⟨by decide +kernel, wd_948, wd_949, wd_2, wd_950⟩
theorem iv_X8_hashWithPieces : nd_iv yX8_hashWithPieces RX8 cX8_hashWithPieces 8 (some .long) 1 := ⟨by decide +kernel, wd_940, wd_941, wd_2, wd_942⟩
theorem iv_X8_hashWithSums : nd_iv yX8_hashWithSums RX8 cX8_hashWithSums 6 (some .long) 1 := ⟨by decide +kernel, wd_957, wd_958, wd_2, wd_959⟩
theorem is_X8_isIn : nd_is yX8_isIn cX8_isIn 2 (some .boolean) 2 := ⟨by decide +kernel, wd_96, wd_2, wd_97⟩
theorem is_X8_lowestOf : nd_is yX8_lowestOf cX8_lowestOf 1 (some .int) 1 := ⟨by decide +kernel, wd_456, wd_2, wd_457⟩
theorem is_X8_mixed : nd_is yX8_mixed cX8_mixed 4 (some .long) 2 := ⟨by decide +kernel, wd_936, wd_2, wd_937⟩
theorem iv_X8_overallNumber : nd_iv yX8_overallNumber RX8 cX8_overallNumber 2 (some .int) 1 := ⟨by decide +kernel, wd_748, wd_749, wd_2, wd_750⟩
theorem iv_X8_pieceProperty : nd_iv yX8_pieceProperty RX8 cX8_pieceProperty 3 (some .int) 2 := ⟨by decide +kernel, wd_546, wd_547, wd_2, wd_548⟩
theorem iv_X8_readBuffer : nd_iv yX8_readBuffer RX8 cX8_readBuffer 2 (some .int) 0 := ⟨by decide +kernel, wd_166, wd_167, wd_2, wd_168⟩
theorem iv_X8_receiptProperty : nd_iv yX8_receiptProperty RX8 cX8_receiptProperty 3 (some .int) 2 := ⟨by decide +kernel, wd_578, wd_579, wd_2, wd_580⟩
theorem is_X8_requireChoice : nd_is yX8_requireChoice cX8_requireChoice 2 none 2 := ⟨by decide +kernel, wd_543, wd_2, wd_544⟩
theorem iv_X8_requirePiece : nd_iv yX8_requirePiece RX8 cX8_requirePiece 2 none 1 := ⟨by decide +kernel, wd_156, wd_157, wd_2, wd_158⟩
theorem iv_X8_requireReceipt : nd_iv yX8_requireReceipt RX8 cX8_requireReceipt 3 none 2 := ⟨by decide +kernel, wd_357, wd_358, wd_2, wd_359⟩
theorem iv_X9_alike : nd_iv yX9_alike RX9 cX9_alike 7 (some .int) 2 := ⟨by decide +kernel, wd_642, wd_643, wd_5, wd_644⟩
theorem iv_X9_canAbove : nd_iv yX9_canAbove RX9 cX9_canAbove 4 (some .int) 1 := ⟨by decide +kernel, wd_482, wd_483, wd_5, wd_484⟩
theorem iv_X9_canAdd : nd_iv yX9_canAdd RX9 cX9_canAdd 4 (some .boolean) 2 := ⟨by decide +kernel, wd_300, wd_301, wd_5, wd_302⟩
theorem iv_X9_canBelow : nd_iv yX9_canBelow RX9 cX9_canBelow 4 (some .int) 1 := ⟨by decide +kernel, wd_472, wd_473, wd_5, wd_474⟩
theorem iv_X9_clearOne : nd_iv yX9_clearOne RX9 cX9_clearOne 3 (some .int) 0 := ⟨by decide +kernel, wd_468, wd_469, wd_5, wd_470⟩
theorem iv_X9_counts : nd_iv yX9_counts RX9 cX9_counts 2 (some .int) 1 := ⟨by decide +kernel, wd_776, wd_777, wd_5, wd_778⟩
theorem is_X9_digits : nd_is yX9_digits cX9_digits 1 (some .int) 1 := ⟨by decide +kernel, wd_631, wd_5, wd_632⟩
theorem iv_X9_fails : nd_iv yX9_fails RX9 cX9_fails 2 (some .int) 1 := ⟨by decide +kernel, wd_131, wd_132, wd_5, wd_133⟩
theorem iv_X9_firstOf : nd_iv yX9_firstOf RX9 cX9_firstOf 3 (some .int) 1 := ⟨by decide +kernel, wd_408, wd_409, wd_5, wd_410⟩
theorem iv_X9_firstTime : nd_iv yX9_firstTime RX9 cX9_firstTime 3 (some .int) 1 := ⟨by decide +kernel, wd_312, wd_313, wd_5, wd_314⟩
theorem iv_X9_fitting : nd_iv yX9_fitting RX9 cX9_fitting 4 (some .int) 2 := ⟨by decide +kernel, wd_404, wd_405, wd_5, wd_406⟩
theorem iv_X9_goesOn : nd_iv yX9_goesOn RX9 cX9_goesOn 7 (some .boolean) 3 := ⟨by decide +kernel, wd_869, wd_870, wd_5, wd_871⟩
theorem iv_X9_hashes : nd_iv yX9_hashes RX9 cX9_hashes 3 none 1 := ⟨by decide +kernel, wd_981, wd_982, wd_5, wd_983⟩
theorem iv_X9_hashesPages : nd_iv yX9_hashesPages RX9 cX9_hashesPages 3 none 0 := ⟨by decide +kernel, wd_990, wd_991, wd_5, wd_992⟩
theorem iv_X9_hashesPieces : nd_iv yX9_hashesPieces RX9 cX9_hashesPieces 3 none 0 := ⟨by decide +kernel, wd_986, wd_987, wd_5, wd_988⟩
theorem iv_X9_hourOf : nd_iv yX9_hourOf RX9 cX9_hourOf 3 (some .int) 2 := ⟨by decide +kernel, wd_638, wd_639, wd_5, wd_640⟩
theorem is_X9_in : nd_is yX9_in cX9_in 3 (some .boolean) 3 := ⟨by decide +kernel, wd_128, wd_5, wd_129⟩
theorem iv_X9_isPiece : nd_iv yX9_isPiece RX9 cX9_isPiece 2 (some .boolean) 1 := ⟨by decide +kernel, wd_275, wd_276, wd_5, wd_277⟩
theorem iv_X9_isReceipt : nd_iv yX9_isReceipt RX9 cX9_isReceipt 3 (some .boolean) 2 := ⟨by decide +kernel, wd_365, wd_366, wd_5, wd_367⟩
theorem is_X9_isTurned : nd_is yX9_isTurned cX9_isTurned 6 (some .boolean) 2 := ⟨by decide +kernel, wd_628, wd_5, wd_629⟩
theorem iv_X9_joined : nd_iv yX9_joined RX9 cX9_joined 3 (some .int) 0 := ⟨by decide +kernel, wd_780, wd_781, wd_5, wd_782⟩
theorem iv_X9_joins : nd_iv yX9_joins RX9 cX9_joins 3 none 2 := ⟨by decide +kernel, wd_412, wd_413, wd_5, wd_414⟩
theorem iv_X9_lastTime : nd_iv yX9_lastTime RX9 cX9_lastTime 3 (some .int) 1 := ⟨by decide +kernel, wd_323, wd_324, wd_5, wd_325⟩
theorem iv_X9_lay : nd_iv yX9_lay RX9 cX9_lay 4 none 3 := ⟨by decide +kernel, wd_140, wd_141, wd_5, wd_142⟩
theorem iv_X9_laysRows : nd_iv yX9_laysRows RX9 cX9_laysRows 4 none 0 := ⟨by decide +kernel, wd_865, wd_866, wd_5, wd_867⟩
theorem iv_X9_lowerOf : nd_iv yX9_lowerOf RX9 cX9_lowerOf 2 (some .int) 1 := ⟨by decide +kernel, wd_304, wd_305, wd_5, wd_306⟩
theorem is_X9_lowest : nd_is yX9_lowest cX9_lowest 2 (some .int) 1 := ⟨by decide +kernel, wd_479, wd_5, wd_480⟩
theorem iv_X9_number : nd_iv yX9_number RX9 cX9_number 4 (some .int) 2 := ⟨by decide +kernel, wd_288, wd_289, wd_5, wd_290⟩
theorem iv_X9_of : nd_iv yX9_of RX9 cX9_of 3 (some .int) 2 := ⟨by decide +kernel, wd_308, wd_309, wd_5, wd_310⟩
theorem is_X9_ones : nd_is yX9_ones cX9_ones 3 (some .int) 1 := ⟨by decide +kernel, wd_476, wd_5, wd_477⟩
theorem iv_X9_overReceipts : nd_iv yX9_overReceipts RX9 cX9_overReceipts 5 (some .int) 1 := ⟨by decide +kernel, wd_784, wd_785, wd_5, wd_786⟩
theorem iv_X9_pageOf : nd_iv yX9_pageOf RX9 cX9_pageOf 3 (some .int) 2 := ⟨by decide +kernel, wd_634, wd_635, wd_5, wd_636⟩
theorem iv_X9_pages : nd_iv yX9_pages RX9 cX9_pages 3 (some .int) 0 := ⟨by decide +kernel, wd_788, wd_789, wd_5, wd_790⟩
theorem iv_X9_piecesOfRoll : nd_iv yX9_piecesOfRoll RX9 cX9_piecesOfRoll 4 (some .int) 1 := ⟨by decide +kernel, wd_416, wd_417, wd_5, wd_418⟩
theorem is_X9_placeOf : nd_is yX9_placeOf cX9_placeOf 2 (some .int) 2 := ⟨by decide +kernel, wd_320, wd_5, wd_321⟩
theorem iv_X9_rankOf : nd_iv yX9_rankOf RX9 cX9_rankOf 8 (some .int) 2 := ⟨by decide +kernel, wd_718, wd_719, wd_5, wd_720⟩
theorem iv_X9_readsAll : nd_iv yX9_readsAll RX9 cX9_readsAll 1 none 0 := ⟨by decide +kernel, wd_279, wd_280, wd_5, wd_281⟩
theorem iv_X9_readsReceipt : nd_iv yX9_readsReceipt RX9 cX9_readsReceipt 3 none 0 := ⟨by decide +kernel, wd_284, wd_285, wd_5, wd_286⟩
theorem iv_X9_saves : nd_iv yX9_saves RX9 cX9_saves 2 none 0 := ⟨by decide +kernel, wd_135, wd_136, wd_5, wd_137⟩
theorem iv_X9_share : nd_iv yX9_share RX9 cX9_share 2 (some .double) 0 := ⟨by decide +kernel, wd_923, wd_924, wd_5, wd_925⟩
theorem iv_X9_shopOf : nd_iv yX9_shopOf RX9 cX9_shopOf 3 (some .int) 2 := ⟨by decide +kernel, wd_646, wd_647, wd_5, wd_648⟩
theorem iv_X9_sign : nd_iv yX9_sign RX9 cX9_sign 1 (some .int) 0 := ⟨by decide +kernel, wd_292, wd_293, wd_5, wd_294⟩
theorem is_X9_size : nd_is yX9_size cX9_size 1 (some .int) 1 := ⟨by decide +kernel, wd_888, wd_5, wd_889⟩
theorem iv_X9_stateOf : nd_iv yX9_stateOf RX9 cX9_stateOf 9 (some .int) 2 := ⟨by decide +kernel, wd_624, wd_625, wd_5, wd_626⟩
theorem iv_X9_sumBy : nd_iv yX9_sumBy RX9 cX9_sumBy 7 (some .int) 2 := ⟨by decide +kernel, wd_737, wd_738, wd_5, wd_739⟩
theorem iv_X9_sumOf : nd_iv yX9_sumOf RX9 cX9_sumOf 6 (some .int) 2 := ⟨by decide +kernel, wd_346, wd_347, wd_5, wd_348⟩
theorem iv_X9_sumOfPiece : nd_iv yX9_sumOfPiece RX9 cX9_sumOfPiece 4 (some .int) 1 := ⟨by decide +kernel, wd_567, wd_568, wd_5, wd_569⟩
theorem iv_X9_suspected : nd_iv yX9_suspected RX9 cX9_suspected 7 (some .int) 0 := ⟨by decide +kernel, wd_906, wd_907, wd_5, wd_908⟩
theorem iv_X9_takes : nd_iv yX9_takes RX9 cX9_takes 3 (some .boolean) 1 := ⟨by decide +kernel, wd_296, wd_297, wd_5, wd_298⟩
theorem iv_X9_tellsLine : nd_iv yX9_tellsLine RX9 cX9_tellsLine 6 (some .int) 3 := ⟨by decide +kernel, wd_714, wd_715, wd_5, wd_716⟩
theorem iv_X9_tellsLongest : nd_iv yX9_tellsLongest RX9 cX9_tellsLongest 9 (some .int) 1 := ⟨by decide +kernel, wd_861, wd_862, wd_5, wd_863⟩
theorem iv_X9_tellsPage : nd_iv yX9_tellsPage RX9 cX9_tellsPage 7 (some .int) 2 := ⟨by decide +kernel, wd_672, wd_673, wd_5, wd_674⟩
theorem iv_X9_tellsPiece : nd_iv yX9_tellsPiece RX9 cX9_tellsPiece 3 (some .int) 2 := ⟨by decide +kernel, wd_563, wd_564, wd_5, wd_565⟩
theorem iv_X9_tellsReceipt : nd_iv yX9_tellsReceipt RX9 cX9_tellsReceipt 4 (some .int) 3 := ⟨by decide +kernel, wd_620, wd_621, wd_5, wd_622⟩
theorem iv_X9_timeOf : nd_iv yX9_timeOf RX9 cX9_timeOf 3 (some .int) 2 := ⟨by decide +kernel, wd_316, wd_317, wd_5, wd_318⟩
theorem iv_X9_totalOf : nd_iv yX9_totalOf RX9 cX9_totalOf 3 (some .int) 2 := ⟨by decide +kernel, wd_369, wd_370, wd_5, wd_371⟩
theorem iv_X9_upperOf : nd_iv yX9_upperOf RX9 cX9_upperOf 2 (some .int) 1 := ⟨by decide +kernel, wd_327, wd_328, wd_5, wd_329⟩
theorem iv_X9_wrongOf : nd_iv yX9_wrongOf RX9 cX9_wrongOf 7 (some .int) 2 := ⟨by decide +kernel, wd_884, wd_885, wd_5, wd_886⟩
section FLD
variable {p : Program} {l : Launch} {e : Env} {R : Room} {s : State} {m : MethodId} {args : Array Value} {below : List Frame} {meth : Method} {c : Code} {H : Heap} {locs : List Loc} {cells slots : Nat} {Q : State → Prop} {D : va_G} {tys : nd_T} {ws : va_W} {cc : ByteArray} {A : Nat → Prop} {H0 : Heap} {pc a : Nat} {ls : Array Slot} {rest : List Value}
theorem gf_X0_11 (hx : p.tables.exec = Jvm.exec) (hb : c.code = cc) (hts : ∀ w ∈ wsL_law, w.before args s = true) (hown : s.vm.findClass RX0 = some m.cls) (hK : va_K D vwCl tys s) (hP : va_P D vwCl ws H) (q0 : Nat) {fs : List Value} (he : ws[q0]? = some (a, .inr (0, fs))) {v : Value} (hv : fs[0]? = some v) (hdg : decode cc pc = .ok (.getfield 11, 3)) (kk : W p l e R s m args below meth c H locs cells slots Q (F0 m (pc + 3) ls (v :: rest))) : W p l e R s m args below meth c H locs cells slots Q (F0 m pc ls (.ref a :: rest)) :=
  va_get (C := RX0) (T := TX0) (N := 3) hx hb hts inlX0 hown hK hP q0 he rfl 0 (by decide) (hts _ wd_37) (fun _ h => h) hv hdg kk
theorem gf_X0_15 (hx : p.tables.exec = Jvm.exec) (hb : c.code = cc) (hts : ∀ w ∈ wsL_law, w.before args s = true) (hown : s.vm.findClass RX0 = some m.cls) (hK : va_K D vwCl tys s) (hP : va_P D vwCl ws H) (q0 : Nat) {fs : List Value} (he : ws[q0]? = some (a, .inr (0, fs))) {v : Value} (hv : fs[1]? = some v) (hdg : decode cc pc = .ok (.getfield 15, 3)) (kk : W p l e R s m args below meth c H locs cells slots Q (F0 m (pc + 3) ls (v :: rest))) : W p l e R s m args below meth c H locs cells slots Q (F0 m pc ls (.ref a :: rest)) :=
  va_get (C := RX0) (T := TX0) (N := 3) hx hb hts inlX0 hown hK hP q0 he rfl 1 (by decide) (hts _ wd_38) (fun _ h => h) hv hdg kk
theorem gf_X0_18 (hx : p.tables.exec = Jvm.exec) (hb : c.code = cc) (hts : ∀ w ∈ wsL_law, w.before args s = true) (hown : s.vm.findClass RX0 = some m.cls) (hK : va_K D vwCl tys s) (hP : va_P D vwCl ws H) (q0 : Nat) {fs : List Value} (he : ws[q0]? = some (a, .inr (0, fs))) {v : Value} (hv : fs[2]? = some v) (hdg : decode cc pc = .ok (.getfield 18, 3)) (kk : W p l e R s m args below meth c H locs cells slots Q (F0 m (pc + 3) ls (v :: rest))) : W p l e R s m args below meth c H locs cells slots Q (F0 m pc ls (.ref a :: rest)) :=
  va_get (C := RX0) (T := TX0) (N := 3) hx hb hts inlX0 hown hK hP q0 he rfl 2 (by decide) (hts _ wd_39) (fun _ h => h) hv hdg kk
theorem pf_X0_18 (hx : p.tables.exec = Jvm.exec) (hb : c.code = cc) (hts : ∀ w ∈ wsL_law, w.before args s = true) (hown : s.vm.findClass RX0 = some m.cls) (hK : va_K D vwCl tys s) (hP : va_P D vwCl ws H) (hD : va_D A ws) (hS : va_S A H0 H locs) (q0 : Nat) {fs : List Value} (he : ws[q0]? = some (a, .inr (0, fs))) (hlen : fs.length = 3) {x : Int32} (hdg : decode cc pc = .ok (.putfield 18, 3)) (kk : ∀ (H1 : Heap) (locs1 : List Loc), va_P D vwCl (ws.set q0 (a, .inr (0, fs.set 2 (.int x)))) H1 → va_D A (ws.set q0 (a, .inr (0, fs.set 2 (.int x)))) → va_S A H0 H1 locs1 → W p l e R s m args below meth c H1 locs1 cells slots Q (F0 m (pc + 3) ls rest)) : W p l e R s m args below meth c H locs cells slots Q (F0 m pc ls (.int x :: .ref a :: rest)) :=
  va_put (C := RX0) (T := TX0) (N := 3) hx hb hts inlX0 tyX0 tyX0_ok nmX0 hown hK hP hD hS q0 he rfl 2 (by decide) (hts _ wd_39) (fun _ h => h) rfl (ty := .int) (by decide +kernel) rfl rfl (by rw [hlen]; decide) hdg kk
theorem gf_X1_9 (hx : p.tables.exec = Jvm.exec) (hb : c.code = cc) (hts : ∀ w ∈ wsL_law, w.before args s = true) (hown : s.vm.findClass RX1 = some m.cls) (hK : va_K D vwCl tys s) (hP : va_P D vwCl ws H) (q0 : Nat) {fs : List Value} (he : ws[q0]? = some (a, .inr (1, fs))) {v : Value} (hv : fs[0]? = some v) (hdg : decode cc pc = .ok (.getfield 9, 3)) (kk : W p l e R s m args below meth c H locs cells slots Q (F0 m (pc + 3) ls (v :: rest))) : W p l e R s m args below meth c H locs cells slots Q (F0 m pc ls (.ref a :: rest)) :=
  va_get (C := RX1) (T := TX1) (N := 2) hx hb hts inlX1 hown hK hP q0 he rfl 0 (by decide) (hts _ wd_43) (fun _ h => h) hv hdg kk
theorem gf_X1_15 (hx : p.tables.exec = Jvm.exec) (hb : c.code = cc) (hts : ∀ w ∈ wsL_law, w.before args s = true) (hown : s.vm.findClass RX1 = some m.cls) (hK : va_K D vwCl tys s) (hP : va_P D vwCl ws H) (q0 : Nat) {fs : List Value} (he : ws[q0]? = some (a, .inr (1, fs))) {v : Value} (hv : fs[1]? = some v) (hdg : decode cc pc = .ok (.getfield 15, 3)) (kk : W p l e R s m args below meth c H locs cells slots Q (F0 m (pc + 3) ls (v :: rest))) : W p l e R s m args below meth c H locs cells slots Q (F0 m pc ls (.ref a :: rest)) :=
  va_get (C := RX1) (T := TX1) (N := 2) hx hb hts inlX1 hown hK hP q0 he rfl 1 (by decide) (hts _ wd_44) (fun _ h => h) hv hdg kk
theorem pf_X1_15 (hx : p.tables.exec = Jvm.exec) (hb : c.code = cc) (hts : ∀ w ∈ wsL_law, w.before args s = true) (hown : s.vm.findClass RX1 = some m.cls) (hK : va_K D vwCl tys s) (hP : va_P D vwCl ws H) (hD : va_D A ws) (hS : va_S A H0 H locs) (q0 : Nat) {fs : List Value} (he : ws[q0]? = some (a, .inr (1, fs))) (hlen : fs.length = 2) {x : Int32} (hdg : decode cc pc = .ok (.putfield 15, 3)) (kk : ∀ (H1 : Heap) (locs1 : List Loc), va_P D vwCl (ws.set q0 (a, .inr (1, fs.set 1 (.int x)))) H1 → va_D A (ws.set q0 (a, .inr (1, fs.set 1 (.int x)))) → va_S A H0 H1 locs1 → W p l e R s m args below meth c H1 locs1 cells slots Q (F0 m (pc + 3) ls rest)) : W p l e R s m args below meth c H locs cells slots Q (F0 m pc ls (.int x :: .ref a :: rest)) :=
  va_put (C := RX1) (T := TX1) (N := 2) hx hb hts inlX1 tyX1 tyX1_ok nmX1 hown hK hP hD hS q0 he rfl 1 (by decide) (hts _ wd_44) (fun _ h => h) rfl (ty := .int) (by decide +kernel) rfl rfl (by rw [hlen]; decide) hdg kk
theorem gf_X4_9 (hx : p.tables.exec = Jvm.exec) (hb : c.code = cc) (hts : ∀ w ∈ wsL_law, w.before args s = true) (hown : s.vm.findClass RX4 = some m.cls) (hK : va_K D vwCl tys s) (hP : va_P D vwCl ws H) (q0 : Nat) {fs : List Value} (he : ws[q0]? = some (a, .inr (2, fs))) {v : Value} (hv : fs[0]? = some v) (hdg : decode cc pc = .ok (.getfield 9, 3)) (kk : W p l e R s m args below meth c H locs cells slots Q (F0 m (pc + 3) ls (v :: rest))) : W p l e R s m args below meth c H locs cells slots Q (F0 m pc ls (.ref a :: rest)) :=
  va_get (C := RX4) (T := TX4) (N := 2) hx hb hts inlX4 hown hK hP q0 he rfl 0 (by decide) (hts _ wd_58) (fun _ h => h) hv hdg kk
theorem gf_X4_15 (hx : p.tables.exec = Jvm.exec) (hb : c.code = cc) (hts : ∀ w ∈ wsL_law, w.before args s = true) (hown : s.vm.findClass RX4 = some m.cls) (hK : va_K D vwCl tys s) (hP : va_P D vwCl ws H) (q0 : Nat) {fs : List Value} (he : ws[q0]? = some (a, .inr (2, fs))) {v : Value} (hv : fs[1]? = some v) (hdg : decode cc pc = .ok (.getfield 15, 3)) (kk : W p l e R s m args below meth c H locs cells slots Q (F0 m (pc + 3) ls (v :: rest))) : W p l e R s m args below meth c H locs cells slots Q (F0 m pc ls (.ref a :: rest)) :=
  va_get (C := RX4) (T := TX4) (N := 2) hx hb hts inlX4 hown hK hP q0 he rfl 1 (by decide) (hts _ wd_59) (fun _ h => h) hv hdg kk
theorem pf_X4_15 (hx : p.tables.exec = Jvm.exec) (hb : c.code = cc) (hts : ∀ w ∈ wsL_law, w.before args s = true) (hown : s.vm.findClass RX4 = some m.cls) (hK : va_K D vwCl tys s) (hP : va_P D vwCl ws H) (hD : va_D A ws) (hS : va_S A H0 H locs) (q0 : Nat) {fs : List Value} (he : ws[q0]? = some (a, .inr (2, fs))) (hlen : fs.length = 2) {x : Int32} (hdg : decode cc pc = .ok (.putfield 15, 3)) (kk : ∀ (H1 : Heap) (locs1 : List Loc), va_P D vwCl (ws.set q0 (a, .inr (2, fs.set 1 (.int x)))) H1 → va_D A (ws.set q0 (a, .inr (2, fs.set 1 (.int x)))) → va_S A H0 H1 locs1 → W p l e R s m args below meth c H1 locs1 cells slots Q (F0 m (pc + 3) ls rest)) : W p l e R s m args below meth c H locs cells slots Q (F0 m pc ls (.int x :: .ref a :: rest)) :=
  va_put (C := RX4) (T := TX4) (N := 2) hx hb hts inlX4 tyX4 tyX4_ok nmX4 hown hK hP hD hS q0 he rfl 1 (by decide) (hts _ wd_59) (fun _ h => h) rfl (ty := .int) (by decide +kernel) rfl rfl (by rw [hlen]; decide) hdg kk
theorem gf_X5_11 (hx : p.tables.exec = Jvm.exec) (hb : c.code = cc) (hts : ∀ w ∈ wsL_law, w.before args s = true) (hown : s.vm.findClass RX5 = some m.cls) (hK : va_K D vwCl tys s) (hP : va_P D vwCl ws H) (q0 : Nat) {fs : List Value} (he : ws[q0]? = some (a, .inr (3, fs))) {v : Value} (hv : fs[0]? = some v) (hdg : decode cc pc = .ok (.getfield 11, 3)) (kk : W p l e R s m args below meth c H locs cells slots Q (F0 m (pc + 3) ls (v :: rest))) : W p l e R s m args below meth c H locs cells slots Q (F0 m pc ls (.ref a :: rest)) :=
  va_get (C := RX5) (T := TX5) (N := 8) hx hb hts inlX5 hown hK hP q0 he rfl 0 (by decide) (hts _ wd_63) (fun _ h => h) hv hdg kk
theorem gf_X5_15 (hx : p.tables.exec = Jvm.exec) (hb : c.code = cc) (hts : ∀ w ∈ wsL_law, w.before args s = true) (hown : s.vm.findClass RX5 = some m.cls) (hK : va_K D vwCl tys s) (hP : va_P D vwCl ws H) (q0 : Nat) {fs : List Value} (he : ws[q0]? = some (a, .inr (3, fs))) {v : Value} (hv : fs[1]? = some v) (hdg : decode cc pc = .ok (.getfield 15, 3)) (kk : W p l e R s m args below meth c H locs cells slots Q (F0 m (pc + 3) ls (v :: rest))) : W p l e R s m args below meth c H locs cells slots Q (F0 m pc ls (.ref a :: rest)) :=
  va_get (C := RX5) (T := TX5) (N := 8) hx hb hts inlX5 hown hK hP q0 he rfl 1 (by decide) (hts _ wd_64) (fun _ h => h) hv hdg kk
theorem gf_X5_18 (hx : p.tables.exec = Jvm.exec) (hb : c.code = cc) (hts : ∀ w ∈ wsL_law, w.before args s = true) (hown : s.vm.findClass RX5 = some m.cls) (hK : va_K D vwCl tys s) (hP : va_P D vwCl ws H) (q0 : Nat) {fs : List Value} (he : ws[q0]? = some (a, .inr (3, fs))) {v : Value} (hv : fs[2]? = some v) (hdg : decode cc pc = .ok (.getfield 18, 3)) (kk : W p l e R s m args below meth c H locs cells slots Q (F0 m (pc + 3) ls (v :: rest))) : W p l e R s m args below meth c H locs cells slots Q (F0 m pc ls (.ref a :: rest)) :=
  va_get (C := RX5) (T := TX5) (N := 8) hx hb hts inlX5 hown hK hP q0 he rfl 2 (by decide) (hts _ wd_65) (fun _ h => h) hv hdg kk
theorem gf_X5_21 (hx : p.tables.exec = Jvm.exec) (hb : c.code = cc) (hts : ∀ w ∈ wsL_law, w.before args s = true) (hown : s.vm.findClass RX5 = some m.cls) (hK : va_K D vwCl tys s) (hP : va_P D vwCl ws H) (q0 : Nat) {fs : List Value} (he : ws[q0]? = some (a, .inr (3, fs))) {v : Value} (hv : fs[3]? = some v) (hdg : decode cc pc = .ok (.getfield 21, 3)) (kk : W p l e R s m args below meth c H locs cells slots Q (F0 m (pc + 3) ls (v :: rest))) : W p l e R s m args below meth c H locs cells slots Q (F0 m pc ls (.ref a :: rest)) :=
  va_get (C := RX5) (T := TX5) (N := 8) hx hb hts inlX5 hown hK hP q0 he rfl 3 (by decide) (hts _ wd_66) (fun _ h => h) hv hdg kk
theorem gf_X5_24 (hx : p.tables.exec = Jvm.exec) (hb : c.code = cc) (hts : ∀ w ∈ wsL_law, w.before args s = true) (hown : s.vm.findClass RX5 = some m.cls) (hK : va_K D vwCl tys s) (hP : va_P D vwCl ws H) (q0 : Nat) {fs : List Value} (he : ws[q0]? = some (a, .inr (3, fs))) {v : Value} (hv : fs[4]? = some v) (hdg : decode cc pc = .ok (.getfield 24, 3)) (kk : W p l e R s m args below meth c H locs cells slots Q (F0 m (pc + 3) ls (v :: rest))) : W p l e R s m args below meth c H locs cells slots Q (F0 m pc ls (.ref a :: rest)) :=
  va_get (C := RX5) (T := TX5) (N := 8) hx hb hts inlX5 hown hK hP q0 he rfl 4 (by decide) (hts _ wd_67) (fun _ h => h) hv hdg kk
theorem pf_X5_24 (hx : p.tables.exec = Jvm.exec) (hb : c.code = cc) (hts : ∀ w ∈ wsL_law, w.before args s = true) (hown : s.vm.findClass RX5 = some m.cls) (hK : va_K D vwCl tys s) (hP : va_P D vwCl ws H) (hD : va_D A ws) (hS : va_S A H0 H locs) (q0 : Nat) {fs : List Value} (he : ws[q0]? = some (a, .inr (3, fs))) (hlen : fs.length = 8) {x : Int32} (hdg : decode cc pc = .ok (.putfield 24, 3)) (kk : ∀ (H1 : Heap) (locs1 : List Loc), va_P D vwCl (ws.set q0 (a, .inr (3, fs.set 4 (.int x)))) H1 → va_D A (ws.set q0 (a, .inr (3, fs.set 4 (.int x)))) → va_S A H0 H1 locs1 → W p l e R s m args below meth c H1 locs1 cells slots Q (F0 m (pc + 3) ls rest)) : W p l e R s m args below meth c H locs cells slots Q (F0 m pc ls (.int x :: .ref a :: rest)) :=
  va_put (C := RX5) (T := TX5) (N := 8) hx hb hts inlX5 tyX5 tyX5_ok nmX5 hown hK hP hD hS q0 he rfl 4 (by decide) (hts _ wd_67) (fun _ h => h) rfl (ty := .int) (by decide +kernel) rfl rfl (by rw [hlen]; decide) hdg kk
theorem gf_X5_28 (hx : p.tables.exec = Jvm.exec) (hb : c.code = cc) (hts : ∀ w ∈ wsL_law, w.before args s = true) (hown : s.vm.findClass RX5 = some m.cls) (hK : va_K D vwCl tys s) (hP : va_P D vwCl ws H) (q0 : Nat) {fs : List Value} (he : ws[q0]? = some (a, .inr (3, fs))) {v : Value} (hv : fs[5]? = some v) (hdg : decode cc pc = .ok (.getfield 28, 3)) (kk : W p l e R s m args below meth c H locs cells slots Q (F0 m (pc + 3) ls (v :: rest))) : W p l e R s m args below meth c H locs cells slots Q (F0 m pc ls (.ref a :: rest)) :=
  va_get (C := RX5) (T := TX5) (N := 8) hx hb hts inlX5 hown hK hP q0 he rfl 5 (by decide) (hts _ wd_68) (fun _ h => h) hv hdg kk
theorem pf_X5_28 (hx : p.tables.exec = Jvm.exec) (hb : c.code = cc) (hts : ∀ w ∈ wsL_law, w.before args s = true) (hown : s.vm.findClass RX5 = some m.cls) (hK : va_K D vwCl tys s) (hP : va_P D vwCl ws H) (hD : va_D A ws) (hS : va_S A H0 H locs) (q0 : Nat) {fs : List Value} (he : ws[q0]? = some (a, .inr (3, fs))) (hlen : fs.length = 8) {x : Int32} (hdg : decode cc pc = .ok (.putfield 28, 3)) (kk : ∀ (H1 : Heap) (locs1 : List Loc), va_P D vwCl (ws.set q0 (a, .inr (3, fs.set 5 (.int x)))) H1 → va_D A (ws.set q0 (a, .inr (3, fs.set 5 (.int x)))) → va_S A H0 H1 locs1 → W p l e R s m args below meth c H1 locs1 cells slots Q (F0 m (pc + 3) ls rest)) : W p l e R s m args below meth c H locs cells slots Q (F0 m pc ls (.int x :: .ref a :: rest)) :=
  va_put (C := RX5) (T := TX5) (N := 8) hx hb hts inlX5 tyX5 tyX5_ok nmX5 hown hK hP hD hS q0 he rfl 5 (by decide) (hts _ wd_68) (fun _ h => h) rfl (ty := .int) (by decide +kernel) rfl rfl (by rw [hlen]; decide) hdg kk
theorem gf_X5_31 (hx : p.tables.exec = Jvm.exec) (hb : c.code = cc) (hts : ∀ w ∈ wsL_law, w.before args s = true) (hown : s.vm.findClass RX5 = some m.cls) (hK : va_K D vwCl tys s) (hP : va_P D vwCl ws H) (q0 : Nat) {fs : List Value} (he : ws[q0]? = some (a, .inr (3, fs))) {v : Value} (hv : fs[6]? = some v) (hdg : decode cc pc = .ok (.getfield 31, 3)) (kk : W p l e R s m args below meth c H locs cells slots Q (F0 m (pc + 3) ls (v :: rest))) : W p l e R s m args below meth c H locs cells slots Q (F0 m pc ls (.ref a :: rest)) :=
  va_get (C := RX5) (T := TX5) (N := 8) hx hb hts inlX5 hown hK hP q0 he rfl 6 (by decide) (hts _ wd_69) (fun _ h => h) hv hdg kk
theorem pf_X5_31 (hx : p.tables.exec = Jvm.exec) (hb : c.code = cc) (hts : ∀ w ∈ wsL_law, w.before args s = true) (hown : s.vm.findClass RX5 = some m.cls) (hK : va_K D vwCl tys s) (hP : va_P D vwCl ws H) (hD : va_D A ws) (hS : va_S A H0 H locs) (q0 : Nat) {fs : List Value} (he : ws[q0]? = some (a, .inr (3, fs))) (hlen : fs.length = 8) {x : Int32} (hdg : decode cc pc = .ok (.putfield 31, 3)) (kk : ∀ (H1 : Heap) (locs1 : List Loc), va_P D vwCl (ws.set q0 (a, .inr (3, fs.set 6 (.int x)))) H1 → va_D A (ws.set q0 (a, .inr (3, fs.set 6 (.int x)))) → va_S A H0 H1 locs1 → W p l e R s m args below meth c H1 locs1 cells slots Q (F0 m (pc + 3) ls rest)) : W p l e R s m args below meth c H locs cells slots Q (F0 m pc ls (.int x :: .ref a :: rest)) :=
  va_put (C := RX5) (T := TX5) (N := 8) hx hb hts inlX5 tyX5 tyX5_ok nmX5 hown hK hP hD hS q0 he rfl 6 (by decide) (hts _ wd_69) (fun _ h => h) rfl (ty := .int) (by decide +kernel) rfl rfl (by rw [hlen]; decide) hdg kk
theorem gf_X5_34 (hx : p.tables.exec = Jvm.exec) (hb : c.code = cc) (hts : ∀ w ∈ wsL_law, w.before args s = true) (hown : s.vm.findClass RX5 = some m.cls) (hK : va_K D vwCl tys s) (hP : va_P D vwCl ws H) (q0 : Nat) {fs : List Value} (he : ws[q0]? = some (a, .inr (3, fs))) {v : Value} (hv : fs[7]? = some v) (hdg : decode cc pc = .ok (.getfield 34, 3)) (kk : W p l e R s m args below meth c H locs cells slots Q (F0 m (pc + 3) ls (v :: rest))) : W p l e R s m args below meth c H locs cells slots Q (F0 m pc ls (.ref a :: rest)) :=
  va_get (C := RX5) (T := TX5) (N := 8) hx hb hts inlX5 hown hK hP q0 he rfl 7 (by decide) (hts _ wd_70) (fun _ h => h) hv hdg kk
theorem pf_X5_34 (hx : p.tables.exec = Jvm.exec) (hb : c.code = cc) (hts : ∀ w ∈ wsL_law, w.before args s = true) (hown : s.vm.findClass RX5 = some m.cls) (hK : va_K D vwCl tys s) (hP : va_P D vwCl ws H) (hD : va_D A ws) (hS : va_S A H0 H locs) (q0 : Nat) {fs : List Value} (he : ws[q0]? = some (a, .inr (3, fs))) (hlen : fs.length = 8) {x : Int32} (hdg : decode cc pc = .ok (.putfield 34, 3)) (kk : ∀ (H1 : Heap) (locs1 : List Loc), va_P D vwCl (ws.set q0 (a, .inr (3, fs.set 7 (.int x)))) H1 → va_D A (ws.set q0 (a, .inr (3, fs.set 7 (.int x)))) → va_S A H0 H1 locs1 → W p l e R s m args below meth c H1 locs1 cells slots Q (F0 m (pc + 3) ls rest)) : W p l e R s m args below meth c H locs cells slots Q (F0 m pc ls (.int x :: .ref a :: rest)) :=
  va_put (C := RX5) (T := TX5) (N := 8) hx hb hts inlX5 tyX5 tyX5_ok nmX5 hown hK hP hD hS q0 he rfl 7 (by decide) (hts _ wd_70) (fun _ h => h) rfl (ty := .int) (by decide +kernel) rfl rfl (by rw [hlen]; decide) hdg kk
theorem gf_X6_11 (hx : p.tables.exec = Jvm.exec) (hb : c.code = cc) (hts : ∀ w ∈ wsL_law, w.before args s = true) (hown : s.vm.findClass RX6 = some m.cls) (hK : va_K D vwCl tys s) (hP : va_P D vwCl ws H) (q0 : Nat) {fs : List Value} (he : ws[q0]? = some (a, .inr (4, fs))) {v : Value} (hv : fs[0]? = some v) (hdg : decode cc pc = .ok (.getfield 11, 3)) (kk : W p l e R s m args below meth c H locs cells slots Q (F0 m (pc + 3) ls (v :: rest))) : W p l e R s m args below meth c H locs cells slots Q (F0 m pc ls (.ref a :: rest)) :=
  va_get (C := RX6) (T := TX6) (N := 7) hx hb hts inlX6 hown hK hP q0 he rfl 0 (by decide) (hts _ wd_48) (fun _ h => h) hv hdg kk
theorem pf_X6_11 (hx : p.tables.exec = Jvm.exec) (hb : c.code = cc) (hts : ∀ w ∈ wsL_law, w.before args s = true) (hown : s.vm.findClass RX6 = some m.cls) (hK : va_K D vwCl tys s) (hP : va_P D vwCl ws H) (hD : va_D A ws) (hS : va_S A H0 H locs) (q0 : Nat) {fs : List Value} (he : ws[q0]? = some (a, .inr (4, fs))) (hlen : fs.length = 7) {x : Int32} (hdg : decode cc pc = .ok (.putfield 11, 3)) (kk : ∀ (H1 : Heap) (locs1 : List Loc), va_P D vwCl (ws.set q0 (a, .inr (4, fs.set 0 (.int x)))) H1 → va_D A (ws.set q0 (a, .inr (4, fs.set 0 (.int x)))) → va_S A H0 H1 locs1 → W p l e R s m args below meth c H1 locs1 cells slots Q (F0 m (pc + 3) ls rest)) : W p l e R s m args below meth c H locs cells slots Q (F0 m pc ls (.int x :: .ref a :: rest)) :=
  va_put (C := RX6) (T := TX6) (N := 7) hx hb hts inlX6 tyX6 tyX6_ok nmX6 hown hK hP hD hS q0 he rfl 0 (by decide) (hts _ wd_48) (fun _ h => h) rfl (ty := .int) (by decide +kernel) rfl rfl (by rw [hlen]; decide) hdg kk
theorem gf_X6_15 (hx : p.tables.exec = Jvm.exec) (hb : c.code = cc) (hts : ∀ w ∈ wsL_law, w.before args s = true) (hown : s.vm.findClass RX6 = some m.cls) (hK : va_K D vwCl tys s) (hP : va_P D vwCl ws H) (q0 : Nat) {fs : List Value} (he : ws[q0]? = some (a, .inr (4, fs))) {v : Value} (hv : fs[1]? = some v) (hdg : decode cc pc = .ok (.getfield 15, 3)) (kk : W p l e R s m args below meth c H locs cells slots Q (F0 m (pc + 3) ls (v :: rest))) : W p l e R s m args below meth c H locs cells slots Q (F0 m pc ls (.ref a :: rest)) :=
  va_get (C := RX6) (T := TX6) (N := 7) hx hb hts inlX6 hown hK hP q0 he rfl 1 (by decide) (hts _ wd_49) (fun _ h => h) hv hdg kk
theorem pf_X6_15 (hx : p.tables.exec = Jvm.exec) (hb : c.code = cc) (hts : ∀ w ∈ wsL_law, w.before args s = true) (hown : s.vm.findClass RX6 = some m.cls) (hK : va_K D vwCl tys s) (hP : va_P D vwCl ws H) (hD : va_D A ws) (hS : va_S A H0 H locs) (q0 : Nat) {fs : List Value} (he : ws[q0]? = some (a, .inr (4, fs))) (hlen : fs.length = 7) {x : Int32} (hdg : decode cc pc = .ok (.putfield 15, 3)) (kk : ∀ (H1 : Heap) (locs1 : List Loc), va_P D vwCl (ws.set q0 (a, .inr (4, fs.set 1 (.int x)))) H1 → va_D A (ws.set q0 (a, .inr (4, fs.set 1 (.int x)))) → va_S A H0 H1 locs1 → W p l e R s m args below meth c H1 locs1 cells slots Q (F0 m (pc + 3) ls rest)) : W p l e R s m args below meth c H locs cells slots Q (F0 m pc ls (.int x :: .ref a :: rest)) :=
  va_put (C := RX6) (T := TX6) (N := 7) hx hb hts inlX6 tyX6 tyX6_ok nmX6 hown hK hP hD hS q0 he rfl 1 (by decide) (hts _ wd_49) (fun _ h => h) rfl (ty := .int) (by decide +kernel) rfl rfl (by rw [hlen]; decide) hdg kk
theorem gf_X6_18 (hx : p.tables.exec = Jvm.exec) (hb : c.code = cc) (hts : ∀ w ∈ wsL_law, w.before args s = true) (hown : s.vm.findClass RX6 = some m.cls) (hK : va_K D vwCl tys s) (hP : va_P D vwCl ws H) (q0 : Nat) {fs : List Value} (he : ws[q0]? = some (a, .inr (4, fs))) {v : Value} (hv : fs[2]? = some v) (hdg : decode cc pc = .ok (.getfield 18, 3)) (kk : W p l e R s m args below meth c H locs cells slots Q (F0 m (pc + 3) ls (v :: rest))) : W p l e R s m args below meth c H locs cells slots Q (F0 m pc ls (.ref a :: rest)) :=
  va_get (C := RX6) (T := TX6) (N := 7) hx hb hts inlX6 hown hK hP q0 he rfl 2 (by decide) (hts _ wd_50) (fun _ h => h) hv hdg kk
theorem pf_X6_18 (hx : p.tables.exec = Jvm.exec) (hb : c.code = cc) (hts : ∀ w ∈ wsL_law, w.before args s = true) (hown : s.vm.findClass RX6 = some m.cls) (hK : va_K D vwCl tys s) (hP : va_P D vwCl ws H) (hD : va_D A ws) (hS : va_S A H0 H locs) (q0 : Nat) {fs : List Value} (he : ws[q0]? = some (a, .inr (4, fs))) (hlen : fs.length = 7) {x : Int32} (hdg : decode cc pc = .ok (.putfield 18, 3)) (kk : ∀ (H1 : Heap) (locs1 : List Loc), va_P D vwCl (ws.set q0 (a, .inr (4, fs.set 2 (.int x)))) H1 → va_D A (ws.set q0 (a, .inr (4, fs.set 2 (.int x)))) → va_S A H0 H1 locs1 → W p l e R s m args below meth c H1 locs1 cells slots Q (F0 m (pc + 3) ls rest)) : W p l e R s m args below meth c H locs cells slots Q (F0 m pc ls (.int x :: .ref a :: rest)) :=
  va_put (C := RX6) (T := TX6) (N := 7) hx hb hts inlX6 tyX6 tyX6_ok nmX6 hown hK hP hD hS q0 he rfl 2 (by decide) (hts _ wd_50) (fun _ h => h) rfl (ty := .int) (by decide +kernel) rfl rfl (by rw [hlen]; decide) hdg kk
theorem gf_X6_21 (hx : p.tables.exec = Jvm.exec) (hb : c.code = cc) (hts : ∀ w ∈ wsL_law, w.before args s = true) (hown : s.vm.findClass RX6 = some m.cls) (hK : va_K D vwCl tys s) (hP : va_P D vwCl ws H) (q0 : Nat) {fs : List Value} (he : ws[q0]? = some (a, .inr (4, fs))) {v : Value} (hv : fs[3]? = some v) (hdg : decode cc pc = .ok (.getfield 21, 3)) (kk : W p l e R s m args below meth c H locs cells slots Q (F0 m (pc + 3) ls (v :: rest))) : W p l e R s m args below meth c H locs cells slots Q (F0 m pc ls (.ref a :: rest)) :=
  va_get (C := RX6) (T := TX6) (N := 7) hx hb hts inlX6 hown hK hP q0 he rfl 3 (by decide) (hts _ wd_51) (fun _ h => h) hv hdg kk
theorem pf_X6_21 (hx : p.tables.exec = Jvm.exec) (hb : c.code = cc) (hts : ∀ w ∈ wsL_law, w.before args s = true) (hown : s.vm.findClass RX6 = some m.cls) (hK : va_K D vwCl tys s) (hP : va_P D vwCl ws H) (hD : va_D A ws) (hS : va_S A H0 H locs) (q0 : Nat) {fs : List Value} (he : ws[q0]? = some (a, .inr (4, fs))) (hlen : fs.length = 7) {x : Int32} (hdg : decode cc pc = .ok (.putfield 21, 3)) (kk : ∀ (H1 : Heap) (locs1 : List Loc), va_P D vwCl (ws.set q0 (a, .inr (4, fs.set 3 (.int x)))) H1 → va_D A (ws.set q0 (a, .inr (4, fs.set 3 (.int x)))) → va_S A H0 H1 locs1 → W p l e R s m args below meth c H1 locs1 cells slots Q (F0 m (pc + 3) ls rest)) : W p l e R s m args below meth c H locs cells slots Q (F0 m pc ls (.int x :: .ref a :: rest)) :=
  va_put (C := RX6) (T := TX6) (N := 7) hx hb hts inlX6 tyX6 tyX6_ok nmX6 hown hK hP hD hS q0 he rfl 3 (by decide) (hts _ wd_51) (fun _ h => h) rfl (ty := .int) (by decide +kernel) rfl rfl (by rw [hlen]; decide) hdg kk
theorem gf_X6_24 (hx : p.tables.exec = Jvm.exec) (hb : c.code = cc) (hts : ∀ w ∈ wsL_law, w.before args s = true) (hown : s.vm.findClass RX6 = some m.cls) (hK : va_K D vwCl tys s) (hP : va_P D vwCl ws H) (q0 : Nat) {fs : List Value} (he : ws[q0]? = some (a, .inr (4, fs))) {v : Value} (hv : fs[4]? = some v) (hdg : decode cc pc = .ok (.getfield 24, 3)) (kk : W p l e R s m args below meth c H locs cells slots Q (F0 m (pc + 3) ls (v :: rest))) : W p l e R s m args below meth c H locs cells slots Q (F0 m pc ls (.ref a :: rest)) :=
  va_get (C := RX6) (T := TX6) (N := 7) hx hb hts inlX6 hown hK hP q0 he rfl 4 (by decide) (hts _ wd_52) (fun _ h => h) hv hdg kk
theorem pf_X6_24 (hx : p.tables.exec = Jvm.exec) (hb : c.code = cc) (hts : ∀ w ∈ wsL_law, w.before args s = true) (hown : s.vm.findClass RX6 = some m.cls) (hK : va_K D vwCl tys s) (hP : va_P D vwCl ws H) (hD : va_D A ws) (hS : va_S A H0 H locs) (q0 : Nat) {fs : List Value} (he : ws[q0]? = some (a, .inr (4, fs))) (hlen : fs.length = 7) {x : Int32} (hdg : decode cc pc = .ok (.putfield 24, 3)) (kk : ∀ (H1 : Heap) (locs1 : List Loc), va_P D vwCl (ws.set q0 (a, .inr (4, fs.set 4 (.int x)))) H1 → va_D A (ws.set q0 (a, .inr (4, fs.set 4 (.int x)))) → va_S A H0 H1 locs1 → W p l e R s m args below meth c H1 locs1 cells slots Q (F0 m (pc + 3) ls rest)) : W p l e R s m args below meth c H locs cells slots Q (F0 m pc ls (.int x :: .ref a :: rest)) :=
  va_put (C := RX6) (T := TX6) (N := 7) hx hb hts inlX6 tyX6 tyX6_ok nmX6 hown hK hP hD hS q0 he rfl 4 (by decide) (hts _ wd_52) (fun _ h => h) rfl (ty := .int) (by decide +kernel) rfl rfl (by rw [hlen]; decide) hdg kk
theorem gf_X6_27 (hx : p.tables.exec = Jvm.exec) (hb : c.code = cc) (hts : ∀ w ∈ wsL_law, w.before args s = true) (hown : s.vm.findClass RX6 = some m.cls) (hK : va_K D vwCl tys s) (hP : va_P D vwCl ws H) (q0 : Nat) {fs : List Value} (he : ws[q0]? = some (a, .inr (4, fs))) {v : Value} (hv : fs[5]? = some v) (hdg : decode cc pc = .ok (.getfield 27, 3)) (kk : W p l e R s m args below meth c H locs cells slots Q (F0 m (pc + 3) ls (v :: rest))) : W p l e R s m args below meth c H locs cells slots Q (F0 m pc ls (.ref a :: rest)) :=
  va_get (C := RX6) (T := TX6) (N := 7) hx hb hts inlX6 hown hK hP q0 he rfl 5 (by decide) (hts _ wd_53) (fun _ h => h) hv hdg kk
theorem pf_X6_27 (hx : p.tables.exec = Jvm.exec) (hb : c.code = cc) (hts : ∀ w ∈ wsL_law, w.before args s = true) (hown : s.vm.findClass RX6 = some m.cls) (hK : va_K D vwCl tys s) (hP : va_P D vwCl ws H) (hD : va_D A ws) (hS : va_S A H0 H locs) (q0 : Nat) {fs : List Value} (he : ws[q0]? = some (a, .inr (4, fs))) (hlen : fs.length = 7) {x : Int32} (hdg : decode cc pc = .ok (.putfield 27, 3)) (kk : ∀ (H1 : Heap) (locs1 : List Loc), va_P D vwCl (ws.set q0 (a, .inr (4, fs.set 5 (.int x)))) H1 → va_D A (ws.set q0 (a, .inr (4, fs.set 5 (.int x)))) → va_S A H0 H1 locs1 → W p l e R s m args below meth c H1 locs1 cells slots Q (F0 m (pc + 3) ls rest)) : W p l e R s m args below meth c H locs cells slots Q (F0 m pc ls (.int x :: .ref a :: rest)) :=
  va_put (C := RX6) (T := TX6) (N := 7) hx hb hts inlX6 tyX6 tyX6_ok nmX6 hown hK hP hD hS q0 he rfl 5 (by decide) (hts _ wd_53) (fun _ h => h) rfl (ty := .int) (by decide +kernel) rfl rfl (by rw [hlen]; decide) hdg kk
theorem gf_X6_30 (hx : p.tables.exec = Jvm.exec) (hb : c.code = cc) (hts : ∀ w ∈ wsL_law, w.before args s = true) (hown : s.vm.findClass RX6 = some m.cls) (hK : va_K D vwCl tys s) (hP : va_P D vwCl ws H) (q0 : Nat) {fs : List Value} (he : ws[q0]? = some (a, .inr (4, fs))) {v : Value} (hv : fs[6]? = some v) (hdg : decode cc pc = .ok (.getfield 30, 3)) (kk : W p l e R s m args below meth c H locs cells slots Q (F0 m (pc + 3) ls (v :: rest))) : W p l e R s m args below meth c H locs cells slots Q (F0 m pc ls (.ref a :: rest)) :=
  va_get (C := RX6) (T := TX6) (N := 7) hx hb hts inlX6 hown hK hP q0 he rfl 6 (by decide) (hts _ wd_54) (fun _ h => h) hv hdg kk
theorem gf_X8_12 (hx : p.tables.exec = Jvm.exec) (hb : c.code = cc) (hts : ∀ w ∈ wsL_law, w.before args s = true) (hown : s.vm.findClass RX8 = some m.cls) (hK : va_K D vwCl tys s) (hP : va_P D vwCl ws H) (q0 : Nat) {fs : List Value} (he : ws[q0]? = some (a, .inr (5, fs))) {v : Value} (hv : fs[0]? = some v) (hdg : decode cc pc = .ok (.getfield 12, 3)) (kk : W p l e R s m args below meth c H locs cells slots Q (F0 m (pc + 3) ls (v :: rest))) : W p l e R s m args below meth c H locs cells slots Q (F0 m pc ls (.ref a :: rest)) :=
  va_get (C := RX8) (T := TX8) (N := 5) hx hb hts inlX8 hown hK hP q0 he rfl 0 (by decide) (hts _ wd_16) (fun _ h => h) hv hdg kk
theorem gf_X8_19 (hx : p.tables.exec = Jvm.exec) (hb : c.code = cc) (hts : ∀ w ∈ wsL_law, w.before args s = true) (hown : s.vm.findClass RX8 = some m.cls) (hK : va_K D vwCl tys s) (hP : va_P D vwCl ws H) (q0 : Nat) {fs : List Value} (he : ws[q0]? = some (a, .inr (5, fs))) {v : Value} (hv : fs[1]? = some v) (hdg : decode cc pc = .ok (.getfield 19, 3)) (kk : W p l e R s m args below meth c H locs cells slots Q (F0 m (pc + 3) ls (v :: rest))) : W p l e R s m args below meth c H locs cells slots Q (F0 m pc ls (.ref a :: rest)) :=
  va_get (C := RX8) (T := TX8) (N := 5) hx hb hts inlX8 hown hK hP q0 he rfl 1 (by decide) (hts _ wd_20) (fun _ h => h) hv hdg kk
theorem gf_X8_26 (hx : p.tables.exec = Jvm.exec) (hb : c.code = cc) (hts : ∀ w ∈ wsL_law, w.before args s = true) (hown : s.vm.findClass RX8 = some m.cls) (hK : va_K D vwCl tys s) (hP : va_P D vwCl ws H) (q0 : Nat) {fs : List Value} (he : ws[q0]? = some (a, .inr (5, fs))) {v : Value} (hv : fs[2]? = some v) (hdg : decode cc pc = .ok (.getfield 26, 3)) (kk : W p l e R s m args below meth c H locs cells slots Q (F0 m (pc + 3) ls (v :: rest))) : W p l e R s m args below meth c H locs cells slots Q (F0 m pc ls (.ref a :: rest)) :=
  va_get (C := RX8) (T := TX8) (N := 5) hx hb hts inlX8 hown hK hP q0 he rfl 2 (by decide) (hts _ wd_24) (fun _ h => h) hv hdg kk
theorem gf_X8_33 (hx : p.tables.exec = Jvm.exec) (hb : c.code = cc) (hts : ∀ w ∈ wsL_law, w.before args s = true) (hown : s.vm.findClass RX8 = some m.cls) (hK : va_K D vwCl tys s) (hP : va_P D vwCl ws H) (q0 : Nat) {fs : List Value} (he : ws[q0]? = some (a, .inr (5, fs))) {v : Value} (hv : fs[3]? = some v) (hdg : decode cc pc = .ok (.getfield 33, 3)) (kk : W p l e R s m args below meth c H locs cells slots Q (F0 m (pc + 3) ls (v :: rest))) : W p l e R s m args below meth c H locs cells slots Q (F0 m pc ls (.ref a :: rest)) :=
  va_get (C := RX8) (T := TX8) (N := 5) hx hb hts inlX8 hown hK hP q0 he rfl 3 (by decide) (hts _ wd_28) (fun _ h => h) hv hdg kk
theorem gf_X8_40 (hx : p.tables.exec = Jvm.exec) (hb : c.code = cc) (hts : ∀ w ∈ wsL_law, w.before args s = true) (hown : s.vm.findClass RX8 = some m.cls) (hK : va_K D vwCl tys s) (hP : va_P D vwCl ws H) (q0 : Nat) {fs : List Value} (he : ws[q0]? = some (a, .inr (5, fs))) {v : Value} (hv : fs[4]? = some v) (hdg : decode cc pc = .ok (.getfield 40, 3)) (kk : W p l e R s m args below meth c H locs cells slots Q (F0 m (pc + 3) ls (v :: rest))) : W p l e R s m args below meth c H locs cells slots Q (F0 m pc ls (.ref a :: rest)) :=
  va_get (C := RX8) (T := TX8) (N := 5) hx hb hts inlX8 hown hK hP q0 he rfl 4 (by decide) (hts _ wd_32) (fun _ h => h) hv hdg kk
theorem gf_X9_7 (hx : p.tables.exec = Jvm.exec) (hb : c.code = cc) (hts : ∀ w ∈ wsL_law, w.before args s = true) (hown : s.vm.findClass RX9 = some m.cls) (hK : va_K D vwCl tys s) (hP : va_P D vwCl ws H) (q0 : Nat) {fs : List Value} (he : ws[q0]? = some (a, .inr (6, fs))) {v : Value} (hv : fs[1]? = some v) (hdg : decode cc pc = .ok (.getfield 7, 3)) (kk : W p l e R s m args below meth c H locs cells slots Q (F0 m (pc + 3) ls (v :: rest))) : W p l e R s m args below meth c H locs cells slots Q (F0 m pc ls (.ref a :: rest)) :=
  va_get (C := RX9) (T := TX9) (N := 12) hx hb hts inlX9 hown hK hP q0 he rfl 1 (by decide) (hts _ wd_75) (fun _ h => h) hv hdg kk
theorem gf_X9_13 (hx : p.tables.exec = Jvm.exec) (hb : c.code = cc) (hts : ∀ w ∈ wsL_law, w.before args s = true) (hown : s.vm.findClass RX9 = some m.cls) (hK : va_K D vwCl tys s) (hP : va_P D vwCl ws H) (q0 : Nat) {fs : List Value} (he : ws[q0]? = some (a, .inr (6, fs))) {v : Value} (hv : fs[2]? = some v) (hdg : decode cc pc = .ok (.getfield 13, 3)) (kk : W p l e R s m args below meth c H locs cells slots Q (F0 m (pc + 3) ls (v :: rest))) : W p l e R s m args below meth c H locs cells slots Q (F0 m pc ls (.ref a :: rest)) :=
  va_get (C := RX9) (T := TX9) (N := 12) hx hb hts inlX9 hown hK hP q0 he rfl 2 (by decide) (hts _ wd_76) (fun _ h => h) hv hdg kk
theorem gf_X9_16 (hx : p.tables.exec = Jvm.exec) (hb : c.code = cc) (hts : ∀ w ∈ wsL_law, w.before args s = true) (hown : s.vm.findClass RX9 = some m.cls) (hK : va_K D vwCl tys s) (hP : va_P D vwCl ws H) (q0 : Nat) {fs : List Value} (he : ws[q0]? = some (a, .inr (6, fs))) {v : Value} (hv : fs[4]? = some v) (hdg : decode cc pc = .ok (.getfield 16, 3)) (kk : W p l e R s m args below meth c H locs cells slots Q (F0 m (pc + 3) ls (v :: rest))) : W p l e R s m args below meth c H locs cells slots Q (F0 m pc ls (.ref a :: rest)) :=
  va_get (C := RX9) (T := TX9) (N := 12) hx hb hts inlX9 hown hK hP q0 he rfl 4 (by decide) (hts _ wd_77) (fun _ h => h) hv hdg kk
theorem gf_X9_19 (hx : p.tables.exec = Jvm.exec) (hb : c.code = cc) (hts : ∀ w ∈ wsL_law, w.before args s = true) (hown : s.vm.findClass RX9 = some m.cls) (hK : va_K D vwCl tys s) (hP : va_P D vwCl ws H) (q0 : Nat) {fs : List Value} (he : ws[q0]? = some (a, .inr (6, fs))) {v : Value} (hv : fs[6]? = some v) (hdg : decode cc pc = .ok (.getfield 19, 3)) (kk : W p l e R s m args below meth c H locs cells slots Q (F0 m (pc + 3) ls (v :: rest))) : W p l e R s m args below meth c H locs cells slots Q (F0 m pc ls (.ref a :: rest)) :=
  va_get (C := RX9) (T := TX9) (N := 12) hx hb hts inlX9 hown hK hP q0 he rfl 6 (by decide) (hts _ wd_78) (fun _ h => h) hv hdg kk
theorem gf_X9_22 (hx : p.tables.exec = Jvm.exec) (hb : c.code = cc) (hts : ∀ w ∈ wsL_law, w.before args s = true) (hown : s.vm.findClass RX9 = some m.cls) (hK : va_K D vwCl tys s) (hP : va_P D vwCl ws H) (q0 : Nat) {fs : List Value} (he : ws[q0]? = some (a, .inr (6, fs))) {v : Value} (hv : fs[9]? = some v) (hdg : decode cc pc = .ok (.getfield 22, 3)) (kk : W p l e R s m args below meth c H locs cells slots Q (F0 m (pc + 3) ls (v :: rest))) : W p l e R s m args below meth c H locs cells slots Q (F0 m pc ls (.ref a :: rest)) :=
  va_get (C := RX9) (T := TX9) (N := 12) hx hb hts inlX9 hown hK hP q0 he rfl 9 (by decide) (hts _ wd_79) (fun _ h => h) hv hdg kk
theorem gf_X9_25 (hx : p.tables.exec = Jvm.exec) (hb : c.code = cc) (hts : ∀ w ∈ wsL_law, w.before args s = true) (hown : s.vm.findClass RX9 = some m.cls) (hK : va_K D vwCl tys s) (hP : va_P D vwCl ws H) (q0 : Nat) {fs : List Value} (he : ws[q0]? = some (a, .inr (6, fs))) {v : Value} (hv : fs[0]? = some v) (hdg : decode cc pc = .ok (.getfield 25, 3)) (kk : W p l e R s m args below meth c H locs cells slots Q (F0 m (pc + 3) ls (v :: rest))) : W p l e R s m args below meth c H locs cells slots Q (F0 m pc ls (.ref a :: rest)) :=
  va_get (C := RX9) (T := TX9) (N := 12) hx hb hts inlX9 hown hK hP q0 he rfl 0 (by decide) (hts _ wd_80) (fun _ h => h) hv hdg kk
theorem pf_X9_25 (hx : p.tables.exec = Jvm.exec) (hb : c.code = cc) (hts : ∀ w ∈ wsL_law, w.before args s = true) (hown : s.vm.findClass RX9 = some m.cls) (hK : va_K D vwCl tys s) (hP : va_P D vwCl ws H) (hD : va_D A ws) (hS : va_S A H0 H locs) (q0 : Nat) {fs : List Value} (he : ws[q0]? = some (a, .inr (6, fs))) (hlen : fs.length = 12) {x : Int32} (hdg : decode cc pc = .ok (.putfield 25, 3)) (kk : ∀ (H1 : Heap) (locs1 : List Loc), va_P D vwCl (ws.set q0 (a, .inr (6, fs.set 0 (.int x)))) H1 → va_D A (ws.set q0 (a, .inr (6, fs.set 0 (.int x)))) → va_S A H0 H1 locs1 → W p l e R s m args below meth c H1 locs1 cells slots Q (F0 m (pc + 3) ls rest)) : W p l e R s m args below meth c H locs cells slots Q (F0 m pc ls (.int x :: .ref a :: rest)) :=
  va_put (C := RX9) (T := TX9) (N := 12) hx hb hts inlX9 tyX9 tyX9_ok nmX9 hown hK hP hD hS q0 he rfl 0 (by decide) (hts _ wd_80) (fun _ h => h) rfl (ty := .int) (by decide +kernel) rfl rfl (by rw [hlen]; decide) hdg kk
theorem gf_X9_40 (hx : p.tables.exec = Jvm.exec) (hb : c.code = cc) (hts : ∀ w ∈ wsL_law, w.before args s = true) (hown : s.vm.findClass RX9 = some m.cls) (hK : va_K D vwCl tys s) (hP : va_P D vwCl ws H) (q0 : Nat) {fs : List Value} (he : ws[q0]? = some (a, .inr (6, fs))) {v : Value} (hv : fs[3]? = some v) (hdg : decode cc pc = .ok (.getfield 40, 3)) (kk : W p l e R s m args below meth c H locs cells slots Q (F0 m (pc + 3) ls (v :: rest))) : W p l e R s m args below meth c H locs cells slots Q (F0 m pc ls (.ref a :: rest)) :=
  va_get (C := RX9) (T := TX9) (N := 12) hx hb hts inlX9 hown hK hP q0 he rfl 3 (by decide) (hts _ wd_138) (fun _ h => h) hv hdg kk
theorem pf_X9_40 (hx : p.tables.exec = Jvm.exec) (hb : c.code = cc) (hts : ∀ w ∈ wsL_law, w.before args s = true) (hown : s.vm.findClass RX9 = some m.cls) (hK : va_K D vwCl tys s) (hP : va_P D vwCl ws H) (hD : va_D A ws) (hS : va_S A H0 H locs) (q0 : Nat) {fs : List Value} (he : ws[q0]? = some (a, .inr (6, fs))) (hlen : fs.length = 12) {x : Int32} (hdg : decode cc pc = .ok (.putfield 40, 3)) (kk : ∀ (H1 : Heap) (locs1 : List Loc), va_P D vwCl (ws.set q0 (a, .inr (6, fs.set 3 (.int x)))) H1 → va_D A (ws.set q0 (a, .inr (6, fs.set 3 (.int x)))) → va_S A H0 H1 locs1 → W p l e R s m args below meth c H1 locs1 cells slots Q (F0 m (pc + 3) ls rest)) : W p l e R s m args below meth c H locs cells slots Q (F0 m pc ls (.int x :: .ref a :: rest)) :=
  va_put (C := RX9) (T := TX9) (N := 12) hx hb hts inlX9 tyX9 tyX9_ok nmX9 hown hK hP hD hS q0 he rfl 3 (by decide) (hts _ wd_138) (fun _ h => h) rfl (ty := .int) (by decide +kernel) rfl rfl (by rw [hlen]; decide) hdg kk
theorem gf_X9_92 (hx : p.tables.exec = Jvm.exec) (hb : c.code = cc) (hts : ∀ w ∈ wsL_law, w.before args s = true) (hown : s.vm.findClass RX9 = some m.cls) (hK : va_K D vwCl tys s) (hP : va_P D vwCl ws H) (q0 : Nat) {fs : List Value} (he : ws[q0]? = some (a, .inr (6, fs))) {v : Value} (hv : fs[8]? = some v) (hdg : decode cc pc = .ok (.getfield 92, 3)) (kk : W p l e R s m args below meth c H locs cells slots Q (F0 m (pc + 3) ls (v :: rest))) : W p l e R s m args below meth c H locs cells slots Q (F0 m pc ls (.ref a :: rest)) :=
  va_get (C := RX9) (T := TX9) (N := 12) hx hb hts inlX9 hown hK hP q0 he rfl 8 (by decide) (hts _ wd_271) (fun _ h => h) hv hdg kk
theorem pf_X9_92 (hx : p.tables.exec = Jvm.exec) (hb : c.code = cc) (hts : ∀ w ∈ wsL_law, w.before args s = true) (hown : s.vm.findClass RX9 = some m.cls) (hK : va_K D vwCl tys s) (hP : va_P D vwCl ws H) (hD : va_D A ws) (hS : va_S A H0 H locs) (q0 : Nat) {fs : List Value} (he : ws[q0]? = some (a, .inr (6, fs))) (hlen : fs.length = 12) {x : Int32} (hz : x = 0 ∨ x = 1) (hdg : decode cc pc = .ok (.putfield 92, 3)) (kk : ∀ (H1 : Heap) (locs1 : List Loc), va_P D vwCl (ws.set q0 (a, .inr (6, fs.set 8 (.int x)))) H1 → va_D A (ws.set q0 (a, .inr (6, fs.set 8 (.int x)))) → va_S A H0 H1 locs1 → W p l e R s m args below meth c H1 locs1 cells slots Q (F0 m (pc + 3) ls rest)) : W p l e R s m args below meth c H locs cells slots Q (F0 m pc ls (.int x :: .ref a :: rest)) :=
  va_put (C := RX9) (T := TX9) (N := 12) hx hb hts inlX9 tyX9 tyX9_ok nmX9 hown hK hP hD hS q0 he rfl 8 (by decide) (hts _ wd_271) (fun _ h => h) rfl (ty := .boolean) (by decide +kernel) (by rcases hz with h | h <;> rw [h] <;> rfl) (by rcases hz with h | h <;> rw [h] <;> rfl) (by rw [hlen]; decide) hdg kk
theorem gf_X9_96 (hx : p.tables.exec = Jvm.exec) (hb : c.code = cc) (hts : ∀ w ∈ wsL_law, w.before args s = true) (hown : s.vm.findClass RX9 = some m.cls) (hK : va_K D vwCl tys s) (hP : va_P D vwCl ws H) (q0 : Nat) {fs : List Value} (he : ws[q0]? = some (a, .inr (6, fs))) {v : Value} (hv : fs[5]? = some v) (hdg : decode cc pc = .ok (.getfield 96, 3)) (kk : W p l e R s m args below meth c H locs cells slots Q (F0 m (pc + 3) ls (v :: rest))) : W p l e R s m args below meth c H locs cells slots Q (F0 m pc ls (.ref a :: rest)) :=
  va_get (C := RX9) (T := TX9) (N := 12) hx hb hts inlX9 hown hK hP q0 he rfl 5 (by decide) (hts _ wd_272) (fun _ h => h) hv hdg kk
theorem pf_X9_96 (hx : p.tables.exec = Jvm.exec) (hb : c.code = cc) (hts : ∀ w ∈ wsL_law, w.before args s = true) (hown : s.vm.findClass RX9 = some m.cls) (hK : va_K D vwCl tys s) (hP : va_P D vwCl ws H) (hD : va_D A ws) (hS : va_S A H0 H locs) (q0 : Nat) {fs : List Value} (he : ws[q0]? = some (a, .inr (6, fs))) (hlen : fs.length = 12) {x : Int32} (hdg : decode cc pc = .ok (.putfield 96, 3)) (kk : ∀ (H1 : Heap) (locs1 : List Loc), va_P D vwCl (ws.set q0 (a, .inr (6, fs.set 5 (.int x)))) H1 → va_D A (ws.set q0 (a, .inr (6, fs.set 5 (.int x)))) → va_S A H0 H1 locs1 → W p l e R s m args below meth c H1 locs1 cells slots Q (F0 m (pc + 3) ls rest)) : W p l e R s m args below meth c H locs cells slots Q (F0 m pc ls (.int x :: .ref a :: rest)) :=
  va_put (C := RX9) (T := TX9) (N := 12) hx hb hts inlX9 tyX9 tyX9_ok nmX9 hown hK hP hD hS q0 he rfl 5 (by decide) (hts _ wd_272) (fun _ h => h) rfl (ty := .int) (by decide +kernel) rfl rfl (by rw [hlen]; decide) hdg kk
theorem gf_X9_99 (hx : p.tables.exec = Jvm.exec) (hb : c.code = cc) (hts : ∀ w ∈ wsL_law, w.before args s = true) (hown : s.vm.findClass RX9 = some m.cls) (hK : va_K D vwCl tys s) (hP : va_P D vwCl ws H) (q0 : Nat) {fs : List Value} (he : ws[q0]? = some (a, .inr (6, fs))) {v : Value} (hv : fs[10]? = some v) (hdg : decode cc pc = .ok (.getfield 99, 3)) (kk : W p l e R s m args below meth c H locs cells slots Q (F0 m (pc + 3) ls (v :: rest))) : W p l e R s m args below meth c H locs cells slots Q (F0 m pc ls (.ref a :: rest)) :=
  va_get (C := RX9) (T := TX9) (N := 12) hx hb hts inlX9 hown hK hP q0 he rfl 10 (by decide) (hts _ wd_273) (fun _ h => h) hv hdg kk
theorem pf_X9_99 (hx : p.tables.exec = Jvm.exec) (hb : c.code = cc) (hts : ∀ w ∈ wsL_law, w.before args s = true) (hown : s.vm.findClass RX9 = some m.cls) (hK : va_K D vwCl tys s) (hP : va_P D vwCl ws H) (hD : va_D A ws) (hS : va_S A H0 H locs) (q0 : Nat) {fs : List Value} (he : ws[q0]? = some (a, .inr (6, fs))) (hlen : fs.length = 12) {x : Int32} (hdg : decode cc pc = .ok (.putfield 99, 3)) (kk : ∀ (H1 : Heap) (locs1 : List Loc), va_P D vwCl (ws.set q0 (a, .inr (6, fs.set 10 (.int x)))) H1 → va_D A (ws.set q0 (a, .inr (6, fs.set 10 (.int x)))) → va_S A H0 H1 locs1 → W p l e R s m args below meth c H1 locs1 cells slots Q (F0 m (pc + 3) ls rest)) : W p l e R s m args below meth c H locs cells slots Q (F0 m pc ls (.int x :: .ref a :: rest)) :=
  va_put (C := RX9) (T := TX9) (N := 12) hx hb hts inlX9 tyX9 tyX9_ok nmX9 hown hK hP hD hS q0 he rfl 10 (by decide) (hts _ wd_273) (fun _ h => h) rfl (ty := .int) (by decide +kernel) rfl rfl (by rw [hlen]; decide) hdg kk
theorem gf_X9_134 (hx : p.tables.exec = Jvm.exec) (hb : c.code = cc) (hts : ∀ w ∈ wsL_law, w.before args s = true) (hown : s.vm.findClass RX9 = some m.cls) (hK : va_K D vwCl tys s) (hP : va_P D vwCl ws H) (q0 : Nat) {fs : List Value} (he : ws[q0]? = some (a, .inr (6, fs))) {v : Value} (hv : fs[7]? = some v) (hdg : decode cc pc = .ok (.getfield 134, 3)) (kk : W p l e R s m args below meth c H locs cells slots Q (F0 m (pc + 3) ls (v :: rest))) : W p l e R s m args below meth c H locs cells slots Q (F0 m pc ls (.ref a :: rest)) :=
  va_get (C := RX9) (T := TX9) (N := 12) hx hb hts inlX9 hown hK hP q0 he rfl 7 (by decide) (hts _ wd_282) (fun _ h => h) hv hdg kk
theorem pf_X9_134 (hx : p.tables.exec = Jvm.exec) (hb : c.code = cc) (hts : ∀ w ∈ wsL_law, w.before args s = true) (hown : s.vm.findClass RX9 = some m.cls) (hK : va_K D vwCl tys s) (hP : va_P D vwCl ws H) (hD : va_D A ws) (hS : va_S A H0 H locs) (q0 : Nat) {fs : List Value} (he : ws[q0]? = some (a, .inr (6, fs))) (hlen : fs.length = 12) {x : Int32} (hdg : decode cc pc = .ok (.putfield 134, 3)) (kk : ∀ (H1 : Heap) (locs1 : List Loc), va_P D vwCl (ws.set q0 (a, .inr (6, fs.set 7 (.int x)))) H1 → va_D A (ws.set q0 (a, .inr (6, fs.set 7 (.int x)))) → va_S A H0 H1 locs1 → W p l e R s m args below meth c H1 locs1 cells slots Q (F0 m (pc + 3) ls rest)) : W p l e R s m args below meth c H locs cells slots Q (F0 m pc ls (.int x :: .ref a :: rest)) :=
  va_put (C := RX9) (T := TX9) (N := 12) hx hb hts inlX9 tyX9 tyX9_ok nmX9 hown hK hP hD hS q0 he rfl 7 (by decide) (hts _ wd_282) (fun _ h => h) rfl (ty := .int) (by decide +kernel) rfl rfl (by rw [hlen]; decide) hdg kk
theorem gf_X9_223 (hx : p.tables.exec = Jvm.exec) (hb : c.code = cc) (hts : ∀ w ∈ wsL_law, w.before args s = true) (hown : s.vm.findClass RX9 = some m.cls) (hK : va_K D vwCl tys s) (hP : va_P D vwCl ws H) (q0 : Nat) {fs : List Value} (he : ws[q0]? = some (a, .inr (6, fs))) {v : Value} (hv : fs[11]? = some v) (hdg : decode cc pc = .ok (.getfield 223, 3)) (kk : W p l e R s m args below meth c H locs cells slots Q (F0 m (pc + 3) ls (v :: rest))) : W p l e R s m args below meth c H locs cells slots Q (F0 m pc ls (.ref a :: rest)) :=
  va_get (C := RX9) (T := TX9) (N := 12) hx hb hts inlX9 hown hK hP q0 he rfl 11 (by decide) (hts _ wd_979) (fun _ h => h) hv hdg kk
theorem pf_X9_223 (hx : p.tables.exec = Jvm.exec) (hb : c.code = cc) (hts : ∀ w ∈ wsL_law, w.before args s = true) (hown : s.vm.findClass RX9 = some m.cls) (hK : va_K D vwCl tys s) (hP : va_P D vwCl ws H) (hD : va_D A ws) (hS : va_S A H0 H locs) (q0 : Nat) {fs : List Value} (he : ws[q0]? = some (a, .inr (6, fs))) (hlen : fs.length = 12) {x : Int64} (hdg : decode cc pc = .ok (.putfield 223, 3)) (kk : ∀ (H1 : Heap) (locs1 : List Loc), va_P D vwCl (ws.set q0 (a, .inr (6, fs.set 11 (.long x)))) H1 → va_D A (ws.set q0 (a, .inr (6, fs.set 11 (.long x)))) → va_S A H0 H1 locs1 → W p l e R s m args below meth c H1 locs1 cells slots Q (F0 m (pc + 3) ls rest)) : W p l e R s m args below meth c H locs cells slots Q (F0 m pc ls (.long x :: .ref a :: rest)) :=
  va_put (C := RX9) (T := TX9) (N := 12) hx hb hts inlX9 tyX9 tyX9_ok nmX9 hown hK hP hD hS q0 he rfl 11 (by decide) (hts _ wd_979) (fun _ h => h) rfl (ty := .long) (by decide +kernel) rfl rfl (by rw [hlen]; decide) hdg kk
end FLD
section THR
variable {p : Program} {l : Launch} {e : Env} {R : Room} {s : State} {m : MethodId} {args : Array Value} {below : List Frame} {meth : Method} {c : Code} {H : Heap} {locs : List Loc} {cc : ByteArray} {D : va_G} {W0 : va_W} {A0 : Nat → Prop} {pc : Nat} {ls : Array Slot} {Qc : Array Value → State → Outcome → State → Prop}
theorem str_50 : (50, "a seam is not 0 to 99") ∈ nd_Str := List.mem_of_getElem? (i := 0) rfl
theorem str_61 : (61, "there are 10 pieces") ∈ nd_Str := List.mem_of_getElem? (i := 1) rfl
theorem str_79 : (79, "the buffer does not tell receipts") ∈ nd_Str := List.mem_of_getElem? (i := 2) rfl
theorem str_91 : (91, "the piece has no receipt") ∈ nd_Str := List.mem_of_getElem? (i := 3) rfl
theorem str_115 : (115, "the pieces cannot be joined") ∈ nd_Str := List.mem_of_getElem? (i := 4) rfl
theorem str_123 : (123, "the piece is not joined to one below") ∈ nd_Str := List.mem_of_getElem? (i := 5) rfl
theorem str_132 : (132, "the code is not 33 to 126") ∈ nd_Str := List.mem_of_getElem? (i := 6) rfl
theorem str_137 : (137, "the buffer has 60 characters") ∈ nd_Str := List.mem_of_getElem? (i := 7) rfl
theorem str_148 : (148, "there is no saved state") ∈ nd_Str := List.mem_of_getElem? (i := 8) rfl
theorem str_167 : (167, "the line is below 0") ∈ nd_Str := List.mem_of_getElem? (i := 9) rfl
theorem str_246 : (246, "an argument is out of range") ∈ nd_Str := List.mem_of_getElem? (i := 10) rfl
theorem str_250 : (250, "there is no such piece") ∈ nd_Str := List.mem_of_getElem? (i := 11) rfl
theorem str_253 : (253, "there is no such receipt") ∈ nd_Str := List.mem_of_getElem? (i := 12) rfl
theorem thr_ot1 : (Cond.classLink "NightDiary" 48 "java/lang/IllegalArgumentException" :: Cond.initialized "java/lang/IllegalArgumentException" :: vx_atS "NightDiary" 52 "java/lang/IllegalArgumentException" ["java/lang/RuntimeException", "java/lang/Exception"]).all vx_ot = true := by decide +kernel
theorem thr_bad1 : ∀ w ∈ (vx_atS "NightDiary" 52 "java/lang/IllegalArgumentException" ["java/lang/RuntimeException", "java/lang/Exception"]).filter (fun w => !goodWord w), w ∈ [Cond.castable "java/lang/IllegalArgumentException" "java/lang/IllegalArgumentException", Cond.declares (Bundle.initS "java/lang/RuntimeException"), Cond.declares (Bundle.initS "java/lang/Exception"), Cond.declares (Bundle.initS "java/lang/Throwable")] := by decide +kernel
theorem thr_in1 : ∀ w ∈ (vx_atS "NightDiary" 52 "java/lang/IllegalArgumentException" ["java/lang/RuntimeException", "java/lang/Exception"]).filter goodWord, w ∈ wsL_law := fun w h => List.mem_append_left _ (List.mem_append_left _ (List.mem_append_right _ h))
theorem nd_thr1 {PW : va_W → Prop} {V0 : va_W} {is : Nat} {text : String} (hx : p.tables.exec = Jvm.exec) (hb : c.code = cc) (hnt : l.stackTraces = false) (hown : s.vm.findClass RX8 = some m.cls) (hts : ∀ w ∈ wsL_law, w.before args s = true) (hX : nd_X A0 s s.heap) (hS : va_S A0 s.heap H locs) (hsize : ls.size = c.maxLocals) (hq : (is, text) ∈ nd_Str) (d0 : decode cc pc = .ok (.new 48, 3)) (d3 : decode cc (pc + 3) = .ok (.dup, 1)) (d4 : decode cc (pc + 4) = .ok (.ldc is, 2)) (d6 : decode cc (pc + 6) = .ok (.invokespecial 52, 3)) (d9 : decode cc (pc + 9) = .ok (.athrow, 1)) (hxt : ∀ x ∈ c.exceptionTable.toList, False) (hlocks : meth.locks = false) (hPW : PW W0) (hP : va_P D vwCl W0 H) (hAe : A0 = va_A V0 s.heap.size) (hfr : 6 ≤ R.frames) (hlo : 82 ≤ R.locals) (hRc : 0 + 1 ≤ R.cells := by decide) (hRs : 0 + 6 ≤ R.slots := by decide) : W p l e R s m args below meth c H locs 0 0 (vx_MQ below Qc (nd_XC D PW (va_A V0 s.heap.size) 1) args s 1 6 A0) (F0 m pc ls []) :=
  nd_thr hx hb hnt hown hX hS hsize (rfl : "java/lang/IllegalArgumentException" = exn 1) (by decide) (hts _ wd_91) (hts _ wd_92) (vx_hat (fun w h => hts w (thr_in1 w h)) thr_bad1 (vx_c (va_Nw.use rfl (hX.2.2.2.1 _ (by decide))) (vx_c (va_Nw.use rfl (hX.2.2.2.2 _ (by decide))) (vx_c (va_Nw.use rfl (hX.2.2.2.2 _ (by decide))) (vx_c (va_Nw.use rfl (hX.2.2.2.2 _ (by decide))) vx_n))))) thr_ot1 hq d0 d3 d4 d6 d9 hxt hlocks hPW hP hAe hfr hlo hRc hRs
theorem thr_ot2 : (Cond.classLink "NightDiary" 59 "java/lang/IllegalStateException" :: Cond.initialized "java/lang/IllegalStateException" :: vx_atS "NightDiary" 63 "java/lang/IllegalStateException" ["java/lang/RuntimeException", "java/lang/Exception"]).all vx_ot = true := by decide +kernel
theorem thr_bad2 : ∀ w ∈ (vx_atS "NightDiary" 63 "java/lang/IllegalStateException" ["java/lang/RuntimeException", "java/lang/Exception"]).filter (fun w => !goodWord w), w ∈ [Cond.castable "java/lang/IllegalStateException" "java/lang/IllegalStateException", Cond.declares (Bundle.initS "java/lang/RuntimeException"), Cond.declares (Bundle.initS "java/lang/Exception"), Cond.declares (Bundle.initS "java/lang/Throwable")] := by decide +kernel
theorem thr_in2 : ∀ w ∈ (vx_atS "NightDiary" 63 "java/lang/IllegalStateException" ["java/lang/RuntimeException", "java/lang/Exception"]).filter goodWord, w ∈ wsL_law := fun w h => List.mem_append_left _ (List.mem_append_right _ h)
theorem nd_thr2 {PW : va_W → Prop} {V0 : va_W} {is : Nat} {text : String} (hx : p.tables.exec = Jvm.exec) (hb : c.code = cc) (hnt : l.stackTraces = false) (hown : s.vm.findClass RX8 = some m.cls) (hts : ∀ w ∈ wsL_law, w.before args s = true) (hX : nd_X A0 s s.heap) (hS : va_S A0 s.heap H locs) (hsize : ls.size = c.maxLocals) (hq : (is, text) ∈ nd_Str) (d0 : decode cc pc = .ok (.new 59, 3)) (d3 : decode cc (pc + 3) = .ok (.dup, 1)) (d4 : decode cc (pc + 4) = .ok (.ldc is, 2)) (d6 : decode cc (pc + 6) = .ok (.invokespecial 63, 3)) (d9 : decode cc (pc + 9) = .ok (.athrow, 1)) (hxt : ∀ x ∈ c.exceptionTable.toList, False) (hlocks : meth.locks = false) (hPW : PW W0) (hP : va_P D vwCl W0 H) (hAe : A0 = va_A V0 s.heap.size) (hfr : 6 ≤ R.frames) (hlo : 82 ≤ R.locals) (hRc : 0 + 1 ≤ R.cells := by decide) (hRs : 0 + 6 ≤ R.slots := by decide) : W p l e R s m args below meth c H locs 0 0 (vx_MQ below Qc (nd_XC D PW (va_A V0 s.heap.size) 2) args s 1 6 A0) (F0 m pc ls []) :=
  nd_thr hx hb hnt hown hX hS hsize (rfl : "java/lang/IllegalStateException" = exn 2) (by decide) (hts _ wd_93) (hts _ wd_94) (vx_hat (fun w h => hts w (thr_in2 w h)) thr_bad2 (vx_c (va_Nw.use rfl (hX.2.2.2.1 _ (by decide))) (vx_c (va_Nw.use rfl (hX.2.2.2.2 _ (by decide))) (vx_c (va_Nw.use rfl (hX.2.2.2.2 _ (by decide))) (vx_c (va_Nw.use rfl (hX.2.2.2.2 _ (by decide))) vx_n))))) thr_ot2 hq d0 d3 d4 d6 d9 hxt hlocks hPW hP hAe hfr hlo hRc hRs
theorem thr_ot3 : (Cond.classLink "NightDiary" 248 "java/lang/IndexOutOfBoundsException" :: Cond.initialized "java/lang/IndexOutOfBoundsException" :: vx_atS "NightDiary" 252 "java/lang/IndexOutOfBoundsException" ["java/lang/RuntimeException", "java/lang/Exception"]).all vx_ot = true := by decide +kernel
theorem thr_bad3 : ∀ w ∈ (vx_atS "NightDiary" 252 "java/lang/IndexOutOfBoundsException" ["java/lang/RuntimeException", "java/lang/Exception"]).filter (fun w => !goodWord w), w ∈ [Cond.castable "java/lang/IndexOutOfBoundsException" "java/lang/IndexOutOfBoundsException", Cond.declares (Bundle.initS "java/lang/RuntimeException"), Cond.declares (Bundle.initS "java/lang/Exception"), Cond.declares (Bundle.initS "java/lang/Throwable")] := by decide +kernel
theorem thr_in3 : ∀ w ∈ (vx_atS "NightDiary" 252 "java/lang/IndexOutOfBoundsException" ["java/lang/RuntimeException", "java/lang/Exception"]).filter goodWord, w ∈ wsL_law := fun w h => List.mem_append_right _ h
theorem nd_thr3 {PW : va_W → Prop} {V0 : va_W} {is : Nat} {text : String} (hx : p.tables.exec = Jvm.exec) (hb : c.code = cc) (hnt : l.stackTraces = false) (hown : s.vm.findClass RX8 = some m.cls) (hts : ∀ w ∈ wsL_law, w.before args s = true) (hX : nd_X A0 s s.heap) (hS : va_S A0 s.heap H locs) (hsize : ls.size = c.maxLocals) (hq : (is, text) ∈ nd_Str) (d0 : decode cc pc = .ok (.new 248, 3)) (d3 : decode cc (pc + 3) = .ok (.dup, 1)) (d4 : decode cc (pc + 4) = .ok (.ldc is, 2)) (d6 : decode cc (pc + 6) = .ok (.invokespecial 252, 3)) (d9 : decode cc (pc + 9) = .ok (.athrow, 1)) (hxt : ∀ x ∈ c.exceptionTable.toList, False) (hlocks : meth.locks = false) (hPW : PW W0) (hP : va_P D vwCl W0 H) (hAe : A0 = va_A V0 s.heap.size) (hfr : 6 ≤ R.frames) (hlo : 82 ≤ R.locals) (hRc : 0 + 1 ≤ R.cells := by decide) (hRs : 0 + 6 ≤ R.slots := by decide) : W p l e R s m args below meth c H locs 0 0 (vx_MQ below Qc (nd_XC D PW (va_A V0 s.heap.size) 3) args s 1 6 A0) (F0 m pc ls []) :=
  nd_thr hx hb hnt hown hX hS hsize (rfl : "java/lang/IndexOutOfBoundsException" = exn 3) (by decide) (hts _ wd_159) (hts _ wd_160) (vx_hat (fun w h => hts w (thr_in3 w h)) thr_bad3 (vx_c (va_Nw.use rfl (hX.2.2.2.1 _ (by decide))) (vx_c (va_Nw.use rfl (hX.2.2.2.2 _ (by decide))) (vx_c (va_Nw.use rfl (hX.2.2.2.2 _ (by decide))) (vx_c (va_Nw.use rfl (hX.2.2.2.2 _ (by decide))) vx_n))))) thr_ot3 hq d0 d3 d4 d6 d9 hxt hlocks hPW hP hAe hfr hlo hRc hRs
end THR
