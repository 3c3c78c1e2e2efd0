/-! pure: rounds of the law (laid by wip/whole/gen/qq.py) -/
section QQ
variable {σ ω υ : Sg} {a b v : Int32}
theorem qk_0 (hf : f_X2_send [ar (0, 0), ai a] σ = some (.inl (some (ai v)), ω)) (hs : sleB σ ω = true) (hm : f_X3_send [ar (11, 0), ai a] (upJ ω v.toInt64) = some (.inl (some (ai v)), υ)) (F : Fp (upJ ω v.toInt64) υ) (hk : υ.1 40 0 0 = 0) : q_0 a b σ = some υ := by
  have e1 : w_send [ar (0, 0), ai a, ar (14, 0)] σ = some (.inl (some (ai 0)), (upJ ω v.toInt64)) := by
    show (f_X2_send [ar (0, 0), ai a] σ).bind _ = _
    rw [hf]
    exact if_pos hs
  unfold q_0
  rw [e1, Option.bind_some]
  dsimp only
  rw [hm, Option.bind_some]
  dsimp only
  rw [e_thrown, Option.bind_some]
  exact if_pos ⟨hs, F.sl, sleB_refl _, hk, fun _ => by rw [F.1]; rfl⟩
theorem qe1_0 (hf : f_X2_send [ar (0, 0), ai a] σ = some (.inr 1, grw σ 1 6)) (hm : f_X3_send [ar (11, 0), ai a] (grw σ 1 6) = some (.inl (some (ai v)), υ)) (F : Fp (grw σ 1 6) υ) (hk : υ.1 40 0 0 = 1) : q_0 a b σ = some υ := by
  have e1 : w_send [ar (0, 0), ai a, ar (14, 0)] σ = some (.inl (some (ai 1)), grw σ 1 6) := by
    show (f_X2_send [ar (0, 0), ai a] σ).bind _ = _
    rw [hf]
    exact if_pos sl_grw
  unfold q_0
  rw [e1, Option.bind_some]
  dsimp only
  rw [hm, Option.bind_some]
  dsimp only
  rw [e_thrown, Option.bind_some]
  exact if_pos ⟨sl_grw, F.sl, sleB_refl _, hk, fun q => absurd q (by decide)⟩
theorem qe2_0 (hf : f_X2_send [ar (0, 0), ai a] σ = some (.inr 2, grw σ 1 6)) (hm : f_X3_send [ar (11, 0), ai a] (grw σ 1 6) = some (.inl (some (ai v)), υ)) (F : Fp (grw σ 1 6) υ) (hk : υ.1 40 0 0 = 2) : q_0 a b σ = some υ := by
  have e1 : w_send [ar (0, 0), ai a, ar (14, 0)] σ = some (.inl (some (ai 2)), grw σ 1 6) := by
    show (f_X2_send [ar (0, 0), ai a] σ).bind _ = _
    rw [hf]
    exact if_pos sl_grw
  unfold q_0
  rw [e1, Option.bind_some]
  dsimp only
  rw [hm, Option.bind_some]
  dsimp only
  rw [e_thrown, Option.bind_some]
  exact if_pos ⟨sl_grw, F.sl, sleB_refl _, hk, fun q => absurd q (by decide)⟩
theorem qk_1 (hf : f_X2_arrive [ar (0, 0), ai a, ai b] σ = some (.inl (some (ai v)), ω)) (hs : sleB σ ω = true) (hm : f_X3_arrive [ar (11, 0), ai a, ai b] (upJ ω v.toInt64) = some (.inl (some (ai v)), υ)) (F : Fp (upJ ω v.toInt64) υ) (hk : υ.1 40 0 0 = 0) : q_1 a b σ = some υ := by
  have e1 : w_arrive [ar (0, 0), ai a, ai b, ar (14, 0)] σ = some (.inl (some (ai 0)), (upJ ω v.toInt64)) := by
    show (f_X2_arrive [ar (0, 0), ai a, ai b] σ).bind _ = _
    rw [hf]
    exact if_pos hs
  unfold q_1
  rw [e1, Option.bind_some]
  dsimp only
  rw [hm, Option.bind_some]
  dsimp only
  rw [e_thrown, Option.bind_some]
  exact if_pos ⟨hs, F.sl, sleB_refl _, hk, fun _ => by rw [F.1]; rfl⟩
theorem qe1_1 (hf : f_X2_arrive [ar (0, 0), ai a, ai b] σ = some (.inr 1, grw σ 1 6)) (hm : f_X3_arrive [ar (11, 0), ai a, ai b] (grw σ 1 6) = some (.inl (some (ai v)), υ)) (F : Fp (grw σ 1 6) υ) (hk : υ.1 40 0 0 = 1) : q_1 a b σ = some υ := by
  have e1 : w_arrive [ar (0, 0), ai a, ai b, ar (14, 0)] σ = some (.inl (some (ai 1)), grw σ 1 6) := by
    show (f_X2_arrive [ar (0, 0), ai a, ai b] σ).bind _ = _
    rw [hf]
    exact if_pos sl_grw
  unfold q_1
  rw [e1, Option.bind_some]
  dsimp only
  rw [hm, Option.bind_some]
  dsimp only
  rw [e_thrown, Option.bind_some]
  exact if_pos ⟨sl_grw, F.sl, sleB_refl _, hk, fun q => absurd q (by decide)⟩
theorem qe2_1 (hf : f_X2_arrive [ar (0, 0), ai a, ai b] σ = some (.inr 2, grw σ 1 6)) (hm : f_X3_arrive [ar (11, 0), ai a, ai b] (grw σ 1 6) = some (.inl (some (ai v)), υ)) (F : Fp (grw σ 1 6) υ) (hk : υ.1 40 0 0 = 2) : q_1 a b σ = some υ := by
  have e1 : w_arrive [ar (0, 0), ai a, ai b, ar (14, 0)] σ = some (.inl (some (ai 2)), grw σ 1 6) := by
    show (f_X2_arrive [ar (0, 0), ai a, ai b] σ).bind _ = _
    rw [hf]
    exact if_pos sl_grw
  unfold q_1
  rw [e1, Option.bind_some]
  dsimp only
  rw [hm, Option.bind_some]
  dsimp only
  rw [e_thrown, Option.bind_some]
  exact if_pos ⟨sl_grw, F.sl, sleB_refl _, hk, fun q => absurd q (by decide)⟩
theorem qk_2 (hf : f_X2_lose [ar (0, 0), ai a, ai b] σ = some (.inl none, ω)) (hs : sleB σ ω = true) (hm : f_X3_lose [ar (11, 0), ai a, ai b] ω = some (.inl none, υ)) (F : Fp ω υ) (hk : υ.1 40 0 0 = 0) : q_2 a b σ = some υ := by
  have e1 : w_lose [ar (0, 0), ai a, ai b] σ = some (.inl (some (ai 0)), ω) := by
    show (f_X2_lose [ar (0, 0), ai a, ai b] σ).bind _ = _
    rw [hf]
    exact if_pos hs
  unfold q_2
  rw [e1, Option.bind_some]
  dsimp only
  rw [hm, Option.bind_some]
  dsimp only
  rw [e_thrown, Option.bind_some]
  exact if_pos ⟨hs, F.sl, sleB_refl _, hk⟩
theorem qe1_2 (hf : f_X2_lose [ar (0, 0), ai a, ai b] σ = some (.inr 1, grw σ 1 6)) (hm : f_X3_lose [ar (11, 0), ai a, ai b] (grw σ 1 6) = some (.inl none, υ)) (F : Fp (grw σ 1 6) υ) (hk : υ.1 40 0 0 = 1) : q_2 a b σ = some υ := by
  have e1 : w_lose [ar (0, 0), ai a, ai b] σ = some (.inl (some (ai 1)), grw σ 1 6) := by
    show (f_X2_lose [ar (0, 0), ai a, ai b] σ).bind _ = _
    rw [hf]
    exact if_pos sl_grw
  unfold q_2
  rw [e1, Option.bind_some]
  dsimp only
  rw [hm, Option.bind_some]
  dsimp only
  rw [e_thrown, Option.bind_some]
  exact if_pos ⟨sl_grw, F.sl, sleB_refl _, hk⟩
theorem qe2_2 (hf : f_X2_lose [ar (0, 0), ai a, ai b] σ = some (.inr 2, grw σ 1 6)) (hm : f_X3_lose [ar (11, 0), ai a, ai b] (grw σ 1 6) = some (.inl none, υ)) (F : Fp (grw σ 1 6) υ) (hk : υ.1 40 0 0 = 2) : q_2 a b σ = some υ := by
  have e1 : w_lose [ar (0, 0), ai a, ai b] σ = some (.inl (some (ai 2)), grw σ 1 6) := by
    show (f_X2_lose [ar (0, 0), ai a, ai b] σ).bind _ = _
    rw [hf]
    exact if_pos sl_grw
  unfold q_2
  rw [e1, Option.bind_some]
  dsimp only
  rw [hm, Option.bind_some]
  dsimp only
  rw [e_thrown, Option.bind_some]
  exact if_pos ⟨sl_grw, F.sl, sleB_refl _, hk⟩
theorem qk_3 (hf : f_X2_sendAgain [ar (0, 0), ai a, ai b] σ = some (.inl none, ω)) (hs : sleB σ ω = true) (hm : f_X3_sendAgain [ar (11, 0), ai a, ai b] ω = some (.inl none, υ)) (F : Fp ω υ) (hk : υ.1 40 0 0 = 0) : q_3 a b σ = some υ := by
  have e1 : w_sendAgain [ar (0, 0), ai a, ai b] σ = some (.inl (some (ai 0)), ω) := by
    show (f_X2_sendAgain [ar (0, 0), ai a, ai b] σ).bind _ = _
    rw [hf]
    exact if_pos hs
  unfold q_3
  rw [e1, Option.bind_some]
  dsimp only
  rw [hm, Option.bind_some]
  dsimp only
  rw [e_thrown, Option.bind_some]
  exact if_pos ⟨hs, F.sl, sleB_refl _, hk⟩
theorem qe1_3 (hf : f_X2_sendAgain [ar (0, 0), ai a, ai b] σ = some (.inr 1, grw σ 1 6)) (hm : f_X3_sendAgain [ar (11, 0), ai a, ai b] (grw σ 1 6) = some (.inl none, υ)) (F : Fp (grw σ 1 6) υ) (hk : υ.1 40 0 0 = 1) : q_3 a b σ = some υ := by
  have e1 : w_sendAgain [ar (0, 0), ai a, ai b] σ = some (.inl (some (ai 1)), grw σ 1 6) := by
    show (f_X2_sendAgain [ar (0, 0), ai a, ai b] σ).bind _ = _
    rw [hf]
    exact if_pos sl_grw
  unfold q_3
  rw [e1, Option.bind_some]
  dsimp only
  rw [hm, Option.bind_some]
  dsimp only
  rw [e_thrown, Option.bind_some]
  exact if_pos ⟨sl_grw, F.sl, sleB_refl _, hk⟩
theorem qe2_3 (hf : f_X2_sendAgain [ar (0, 0), ai a, ai b] σ = some (.inr 2, grw σ 1 6)) (hm : f_X3_sendAgain [ar (11, 0), ai a, ai b] (grw σ 1 6) = some (.inl none, υ)) (F : Fp (grw σ 1 6) υ) (hk : υ.1 40 0 0 = 2) : q_3 a b σ = some υ := by
  have e1 : w_sendAgain [ar (0, 0), ai a, ai b] σ = some (.inl (some (ai 2)), grw σ 1 6) := by
    show (f_X2_sendAgain [ar (0, 0), ai a, ai b] σ).bind _ = _
    rw [hf]
    exact if_pos sl_grw
  unfold q_3
  rw [e1, Option.bind_some]
  dsimp only
  rw [hm, Option.bind_some]
  dsimp only
  rw [e_thrown, Option.bind_some]
  exact if_pos ⟨sl_grw, F.sl, sleB_refl _, hk⟩
theorem qk_4 (hf : f_X2_messages [ar (0, 0)] σ = some (.inl (some (ai v)), σ)) (hm : f_X3_messages [ar (11, 0)] σ = some (.inl (some (ai v)), υ)) (F : Fp σ υ) : q_4 a b σ = some υ := by
  unfold q_4
  rw [hf, Option.bind_some]
  dsimp only
  rw [hm, Option.bind_some]
  exact if_pos ⟨sleB_refl _, F.sl, rfl⟩
theorem qk_5 (hf : f_X2_sender [ar (0, 0), ai a] σ = some (.inl (some (ai v)), ω)) (hs : sleB σ ω = true) (hm : f_X3_sender [ar (11, 0), ai a] (upJ ω v.toInt64) = some (.inl (some (ai v)), υ)) (F : Fp (upJ ω v.toInt64) υ) (hk : υ.1 40 0 0 = 0) : q_5 a b σ = some υ := by
  have e1 : w_sender [ar (0, 0), ai a, ar (14, 0)] σ = some (.inl (some (ai 0)), (upJ ω v.toInt64)) := by
    show (f_X2_sender [ar (0, 0), ai a] σ).bind _ = _
    rw [hf]
    exact if_pos hs
  unfold q_5
  rw [e1, Option.bind_some]
  dsimp only
  rw [hm, Option.bind_some]
  dsimp only
  rw [e_thrown, Option.bind_some]
  exact if_pos ⟨hs, F.sl, sleB_refl _, hk, fun _ => by rw [F.1]; rfl⟩
theorem qe1_5 (hf : f_X2_sender [ar (0, 0), ai a] σ = some (.inr 1, grw σ 1 6)) (hm : f_X3_sender [ar (11, 0), ai a] (grw σ 1 6) = some (.inl (some (ai v)), υ)) (F : Fp (grw σ 1 6) υ) (hk : υ.1 40 0 0 = 1) : q_5 a b σ = some υ := by
  have e1 : w_sender [ar (0, 0), ai a, ar (14, 0)] σ = some (.inl (some (ai 1)), grw σ 1 6) := by
    show (f_X2_sender [ar (0, 0), ai a] σ).bind _ = _
    rw [hf]
    exact if_pos sl_grw
  unfold q_5
  rw [e1, Option.bind_some]
  dsimp only
  rw [hm, Option.bind_some]
  dsimp only
  rw [e_thrown, Option.bind_some]
  exact if_pos ⟨sl_grw, F.sl, sleB_refl _, hk, fun q => absurd q (by decide)⟩
theorem qk_6 (hf : f_X2_copy [ar (0, 0), ai a, ai b] σ = some (.inl (some (ai v)), ω)) (hs : sleB σ ω = true) (hm : f_X3_copy [ar (11, 0), ai a, ai b] (upJ ω v.toInt64) = some (.inl (some (ai v)), υ)) (F : Fp (upJ ω v.toInt64) υ) (hk : υ.1 40 0 0 = 0) : q_6 a b σ = some υ := by
  have e1 : w_copy [ar (0, 0), ai a, ai b, ar (14, 0)] σ = some (.inl (some (ai 0)), (upJ ω v.toInt64)) := by
    show (f_X2_copy [ar (0, 0), ai a, ai b] σ).bind _ = _
    rw [hf]
    exact if_pos hs
  unfold q_6
  rw [e1, Option.bind_some]
  dsimp only
  rw [hm, Option.bind_some]
  dsimp only
  rw [e_thrown, Option.bind_some]
  exact if_pos ⟨hs, F.sl, sleB_refl _, hk, fun _ => by rw [F.1]; rfl⟩
theorem qe1_6 (hf : f_X2_copy [ar (0, 0), ai a, ai b] σ = some (.inr 1, grw σ 1 6)) (hm : f_X3_copy [ar (11, 0), ai a, ai b] (grw σ 1 6) = some (.inl (some (ai v)), υ)) (F : Fp (grw σ 1 6) υ) (hk : υ.1 40 0 0 = 1) : q_6 a b σ = some υ := by
  have e1 : w_copy [ar (0, 0), ai a, ai b, ar (14, 0)] σ = some (.inl (some (ai 1)), grw σ 1 6) := by
    show (f_X2_copy [ar (0, 0), ai a, ai b] σ).bind _ = _
    rw [hf]
    exact if_pos sl_grw
  unfold q_6
  rw [e1, Option.bind_some]
  dsimp only
  rw [hm, Option.bind_some]
  dsimp only
  rw [e_thrown, Option.bind_some]
  exact if_pos ⟨sl_grw, F.sl, sleB_refl _, hk, fun q => absurd q (by decide)⟩
theorem qk_7 (hf : f_X2_clock [ar (0, 0), ai a, ai b] σ = some (.inl (some (ai v)), ω)) (hs : sleB σ ω = true) (hm : f_X3_clock [ar (11, 0), ai a, ai b] (upJ ω v.toInt64) = some (.inl (some (ai v)), υ)) (F : Fp (upJ ω v.toInt64) υ) (hk : υ.1 40 0 0 = 0) : q_7 a b σ = some υ := by
  have e1 : w_clock [ar (0, 0), ai a, ai b, ar (14, 0)] σ = some (.inl (some (ai 0)), (upJ ω v.toInt64)) := by
    show (f_X2_clock [ar (0, 0), ai a, ai b] σ).bind _ = _
    rw [hf]
    exact if_pos hs
  unfold q_7
  rw [e1, Option.bind_some]
  dsimp only
  rw [hm, Option.bind_some]
  dsimp only
  rw [e_thrown, Option.bind_some]
  exact if_pos ⟨hs, F.sl, sleB_refl _, hk, fun _ => by rw [F.1]; rfl⟩
theorem qe1_7 (hf : f_X2_clock [ar (0, 0), ai a, ai b] σ = some (.inr 1, grw σ 1 6)) (hm : f_X3_clock [ar (11, 0), ai a, ai b] (grw σ 1 6) = some (.inl (some (ai v)), υ)) (F : Fp (grw σ 1 6) υ) (hk : υ.1 40 0 0 = 1) : q_7 a b σ = some υ := by
  have e1 : w_clock [ar (0, 0), ai a, ai b, ar (14, 0)] σ = some (.inl (some (ai 1)), grw σ 1 6) := by
    show (f_X2_clock [ar (0, 0), ai a, ai b] σ).bind _ = _
    rw [hf]
    exact if_pos sl_grw
  unfold q_7
  rw [e1, Option.bind_some]
  dsimp only
  rw [hm, Option.bind_some]
  dsimp only
  rw [e_thrown, Option.bind_some]
  exact if_pos ⟨sl_grw, F.sl, sleB_refl _, hk, fun q => absurd q (by decide)⟩
theorem qk_8 (hf : f_X2_stamp [ar (0, 0), ai a, ai b] σ = some (.inl (some (ai v)), ω)) (hs : sleB σ ω = true) (hm : f_X3_stamp [ar (11, 0), ai a, ai b] (upJ ω v.toInt64) = some (.inl (some (ai v)), υ)) (F : Fp (upJ ω v.toInt64) υ) (hk : υ.1 40 0 0 = 0) : q_8 a b σ = some υ := by
  have e1 : w_stamp [ar (0, 0), ai a, ai b, ar (14, 0)] σ = some (.inl (some (ai 0)), (upJ ω v.toInt64)) := by
    show (f_X2_stamp [ar (0, 0), ai a, ai b] σ).bind _ = _
    rw [hf]
    exact if_pos hs
  unfold q_8
  rw [e1, Option.bind_some]
  dsimp only
  rw [hm, Option.bind_some]
  dsimp only
  rw [e_thrown, Option.bind_some]
  exact if_pos ⟨hs, F.sl, sleB_refl _, hk, fun _ => by rw [F.1]; rfl⟩
theorem qe1_8 (hf : f_X2_stamp [ar (0, 0), ai a, ai b] σ = some (.inr 1, grw σ 1 6)) (hm : f_X3_stamp [ar (11, 0), ai a, ai b] (grw σ 1 6) = some (.inl (some (ai v)), υ)) (F : Fp (grw σ 1 6) υ) (hk : υ.1 40 0 0 = 1) : q_8 a b σ = some υ := by
  have e1 : w_stamp [ar (0, 0), ai a, ai b, ar (14, 0)] σ = some (.inl (some (ai 1)), grw σ 1 6) := by
    show (f_X2_stamp [ar (0, 0), ai a, ai b] σ).bind _ = _
    rw [hf]
    exact if_pos sl_grw
  unfold q_8
  rw [e1, Option.bind_some]
  dsimp only
  rw [hm, Option.bind_some]
  dsimp only
  rw [e_thrown, Option.bind_some]
  exact if_pos ⟨sl_grw, F.sl, sleB_refl _, hk, fun q => absurd q (by decide)⟩
theorem qk_9 (hf : f_X2_precedes [ar (0, 0), ai a, ai b] σ = some (.inl (some (ai v)), ω)) (hs : sleB σ ω = true) (hm : f_X3_precedes [ar (11, 0), ai a, ai b] (upJ ω (b2l v)) = some (.inl (some (ai v)), υ)) (F : Fp (upJ ω (b2l v)) υ) (hk : υ.1 40 0 0 = 0) : q_9 a b σ = some υ := by
  have e1 : w_precedes [ar (0, 0), ai a, ai b, ar (14, 0)] σ = some (.inl (some (ai 0)), (upJ ω (b2l v))) := by
    show (f_X2_precedes [ar (0, 0), ai a, ai b] σ).bind _ = _
    rw [hf]
    exact if_pos hs
  unfold q_9
  rw [e1, Option.bind_some]
  dsimp only
  rw [hm, Option.bind_some]
  dsimp only
  rw [e_thrown, Option.bind_some]
  exact if_pos ⟨hs, F.sl, sleB_refl _, hk, fun _ => by rw [F.1]; rfl⟩
theorem qe1_9 (hf : f_X2_precedes [ar (0, 0), ai a, ai b] σ = some (.inr 1, grw σ 1 6)) (hm : f_X3_precedes [ar (11, 0), ai a, ai b] (grw σ 1 6) = some (.inl (some (ai v)), υ)) (F : Fp (grw σ 1 6) υ) (hk : υ.1 40 0 0 = 1) : q_9 a b σ = some υ := by
  have e1 : w_precedes [ar (0, 0), ai a, ai b, ar (14, 0)] σ = some (.inl (some (ai 1)), grw σ 1 6) := by
    show (f_X2_precedes [ar (0, 0), ai a, ai b] σ).bind _ = _
    rw [hf]
    exact if_pos sl_grw
  unfold q_9
  rw [e1, Option.bind_some]
  dsimp only
  rw [hm, Option.bind_some]
  dsimp only
  rw [e_thrown, Option.bind_some]
  exact if_pos ⟨sl_grw, F.sl, sleB_refl _, hk, fun q => absurd q (by decide)⟩
theorem qk_10 (hf : f_X2_precedesByHistory [ar (0, 0), ai a, ai b] σ = some (.inl (some (ai v)), ω)) (hs : sleB σ ω = true) (hm : f_X3_precedesByHistory [ar (11, 0), ai a, ai b] (upJ ω (b2l v)) = some (.inl (some (ai v)), υ)) (F : Fp (upJ ω (b2l v)) υ) (hk : υ.1 40 0 0 = 0) : q_10 a b σ = some υ := by
  have e1 : w_precedesByHistory [ar (0, 0), ai a, ai b, ar (14, 0)] σ = some (.inl (some (ai 0)), (upJ ω (b2l v))) := by
    show (f_X2_precedesByHistory [ar (0, 0), ai a, ai b] σ).bind _ = _
    rw [hf]
    exact if_pos hs
  unfold q_10
  rw [e1, Option.bind_some]
  dsimp only
  rw [hm, Option.bind_some]
  dsimp only
  rw [e_thrown, Option.bind_some]
  exact if_pos ⟨hs, F.sl, sleB_refl _, hk, fun _ => by rw [F.1]; rfl⟩
theorem qe1_10 (hf : f_X2_precedesByHistory [ar (0, 0), ai a, ai b] σ = some (.inr 1, grw σ 1 6)) (hm : f_X3_precedesByHistory [ar (11, 0), ai a, ai b] (grw σ 1 6) = some (.inl (some (ai v)), υ)) (F : Fp (grw σ 1 6) υ) (hk : υ.1 40 0 0 = 1) : q_10 a b σ = some υ := by
  have e1 : w_precedesByHistory [ar (0, 0), ai a, ai b, ar (14, 0)] σ = some (.inl (some (ai 1)), grw σ 1 6) := by
    show (f_X2_precedesByHistory [ar (0, 0), ai a, ai b] σ).bind _ = _
    rw [hf]
    exact if_pos sl_grw
  unfold q_10
  rw [e1, Option.bind_some]
  dsimp only
  rw [hm, Option.bind_some]
  dsimp only
  rw [e_thrown, Option.bind_some]
  exact if_pos ⟨sl_grw, F.sl, sleB_refl _, hk, fun q => absurd q (by decide)⟩
theorem qk_11 (hf : f_X2_areConcurrent [ar (0, 0), ai a, ai b] σ = some (.inl (some (ai v)), ω)) (hs : sleB σ ω = true) (hm : f_X3_areConcurrent [ar (11, 0), ai a, ai b] (upJ ω (b2l v)) = some (.inl (some (ai v)), υ)) (F : Fp (upJ ω (b2l v)) υ) (hk : υ.1 40 0 0 = 0) : q_11 a b σ = some υ := by
  have e1 : w_areConcurrent [ar (0, 0), ai a, ai b, ar (14, 0)] σ = some (.inl (some (ai 0)), (upJ ω (b2l v))) := by
    show (f_X2_areConcurrent [ar (0, 0), ai a, ai b] σ).bind _ = _
    rw [hf]
    exact if_pos hs
  unfold q_11
  rw [e1, Option.bind_some]
  dsimp only
  rw [hm, Option.bind_some]
  dsimp only
  rw [e_thrown, Option.bind_some]
  exact if_pos ⟨hs, F.sl, sleB_refl _, hk, fun _ => by rw [F.1]; rfl⟩
theorem qe1_11 (hf : f_X2_areConcurrent [ar (0, 0), ai a, ai b] σ = some (.inr 1, grw σ 1 6)) (hm : f_X3_areConcurrent [ar (11, 0), ai a, ai b] (grw σ 1 6) = some (.inl (some (ai v)), υ)) (F : Fp (grw σ 1 6) υ) (hk : υ.1 40 0 0 = 1) : q_11 a b σ = some υ := by
  have e1 : w_areConcurrent [ar (0, 0), ai a, ai b, ar (14, 0)] σ = some (.inl (some (ai 1)), grw σ 1 6) := by
    show (f_X2_areConcurrent [ar (0, 0), ai a, ai b] σ).bind _ = _
    rw [hf]
    exact if_pos sl_grw
  unfold q_11
  rw [e1, Option.bind_some]
  dsimp only
  rw [hm, Option.bind_some]
  dsimp only
  rw [e_thrown, Option.bind_some]
  exact if_pos ⟨sl_grw, F.sl, sleB_refl _, hk, fun q => absurd q (by decide)⟩
theorem qk_12 (hf : f_X2_delivered [ar (0, 0), ai a] σ = some (.inl (some (ai v)), ω)) (hs : sleB σ ω = true) (hm : f_X3_delivered [ar (11, 0), ai a] (upJ ω v.toInt64) = some (.inl (some (ai v)), υ)) (F : Fp (upJ ω v.toInt64) υ) (hk : υ.1 40 0 0 = 0) : q_12 a b σ = some υ := by
  have e1 : w_delivered [ar (0, 0), ai a, ar (14, 0)] σ = some (.inl (some (ai 0)), (upJ ω v.toInt64)) := by
    show (f_X2_delivered [ar (0, 0), ai a] σ).bind _ = _
    rw [hf]
    exact if_pos hs
  unfold q_12
  rw [e1, Option.bind_some]
  dsimp only
  rw [hm, Option.bind_some]
  dsimp only
  rw [e_thrown, Option.bind_some]
  exact if_pos ⟨hs, F.sl, sleB_refl _, hk, fun _ => by rw [F.1]; rfl⟩
theorem qe1_12 (hf : f_X2_delivered [ar (0, 0), ai a] σ = some (.inr 1, grw σ 1 6)) (hm : f_X3_delivered [ar (11, 0), ai a] (grw σ 1 6) = some (.inl (some (ai v)), υ)) (F : Fp (grw σ 1 6) υ) (hk : υ.1 40 0 0 = 1) : q_12 a b σ = some υ := by
  have e1 : w_delivered [ar (0, 0), ai a, ar (14, 0)] σ = some (.inl (some (ai 1)), grw σ 1 6) := by
    show (f_X2_delivered [ar (0, 0), ai a] σ).bind _ = _
    rw [hf]
    exact if_pos sl_grw
  unfold q_12
  rw [e1, Option.bind_some]
  dsimp only
  rw [hm, Option.bind_some]
  dsimp only
  rw [e_thrown, Option.bind_some]
  exact if_pos ⟨sl_grw, F.sl, sleB_refl _, hk, fun q => absurd q (by decide)⟩
theorem qk_13 (hf : f_X2_deliveredAt [ar (0, 0), ai a, ai b] σ = some (.inl (some (ai v)), ω)) (hs : sleB σ ω = true) (hm : f_X3_deliveredAt [ar (11, 0), ai a, ai b] (upJ ω v.toInt64) = some (.inl (some (ai v)), υ)) (F : Fp (upJ ω v.toInt64) υ) (hk : υ.1 40 0 0 = 0) : q_13 a b σ = some υ := by
  have e1 : w_deliveredAt [ar (0, 0), ai a, ai b, ar (14, 0)] σ = some (.inl (some (ai 0)), (upJ ω v.toInt64)) := by
    show (f_X2_deliveredAt [ar (0, 0), ai a, ai b] σ).bind _ = _
    rw [hf]
    exact if_pos hs
  unfold q_13
  rw [e1, Option.bind_some]
  dsimp only
  rw [hm, Option.bind_some]
  dsimp only
  rw [e_thrown, Option.bind_some]
  exact if_pos ⟨hs, F.sl, sleB_refl _, hk, fun _ => by rw [F.1]; rfl⟩
theorem qe1_13 (hf : f_X2_deliveredAt [ar (0, 0), ai a, ai b] σ = some (.inr 1, grw σ 1 6)) (hm : f_X3_deliveredAt [ar (11, 0), ai a, ai b] (grw σ 1 6) = some (.inl (some (ai v)), υ)) (F : Fp (grw σ 1 6) υ) (hk : υ.1 40 0 0 = 1) : q_13 a b σ = some υ := by
  have e1 : w_deliveredAt [ar (0, 0), ai a, ai b, ar (14, 0)] σ = some (.inl (some (ai 1)), grw σ 1 6) := by
    show (f_X2_deliveredAt [ar (0, 0), ai a, ai b] σ).bind _ = _
    rw [hf]
    exact if_pos sl_grw
  unfold q_13
  rw [e1, Option.bind_some]
  dsimp only
  rw [hm, Option.bind_some]
  dsimp only
  rw [e_thrown, Option.bind_some]
  exact if_pos ⟨sl_grw, F.sl, sleB_refl _, hk, fun q => absurd q (by decide)⟩
theorem qk_14 (hf : f_X2_waiting [ar (0, 0), ai a] σ = some (.inl (some (ai v)), ω)) (hs : sleB σ ω = true) (hm : f_X3_waiting [ar (11, 0), ai a] (upJ ω v.toInt64) = some (.inl (some (ai v)), υ)) (F : Fp (upJ ω v.toInt64) υ) (hk : υ.1 40 0 0 = 0) : q_14 a b σ = some υ := by
  have e1 : w_waiting [ar (0, 0), ai a, ar (14, 0)] σ = some (.inl (some (ai 0)), (upJ ω v.toInt64)) := by
    show (f_X2_waiting [ar (0, 0), ai a] σ).bind _ = _
    rw [hf]
    exact if_pos hs
  unfold q_14
  rw [e1, Option.bind_some]
  dsimp only
  rw [hm, Option.bind_some]
  dsimp only
  rw [e_thrown, Option.bind_some]
  exact if_pos ⟨hs, F.sl, sleB_refl _, hk, fun _ => by rw [F.1]; rfl⟩
theorem qe1_14 (hf : f_X2_waiting [ar (0, 0), ai a] σ = some (.inr 1, grw σ 1 6)) (hm : f_X3_waiting [ar (11, 0), ai a] (grw σ 1 6) = some (.inl (some (ai v)), υ)) (F : Fp (grw σ 1 6) υ) (hk : υ.1 40 0 0 = 1) : q_14 a b σ = some υ := by
  have e1 : w_waiting [ar (0, 0), ai a, ar (14, 0)] σ = some (.inl (some (ai 1)), grw σ 1 6) := by
    show (f_X2_waiting [ar (0, 0), ai a] σ).bind _ = _
    rw [hf]
    exact if_pos sl_grw
  unfold q_14
  rw [e1, Option.bind_some]
  dsimp only
  rw [hm, Option.bind_some]
  dsimp only
  rw [e_thrown, Option.bind_some]
  exact if_pos ⟨sl_grw, F.sl, sleB_refl _, hk, fun q => absurd q (by decide)⟩
theorem qk_15 (hf : f_X2_waitingAt [ar (0, 0), ai a, ai b] σ = some (.inl (some (ai v)), ω)) (hs : sleB σ ω = true) (hm : f_X3_waitingAt [ar (11, 0), ai a, ai b] (upJ ω v.toInt64) = some (.inl (some (ai v)), υ)) (F : Fp (upJ ω v.toInt64) υ) (hk : υ.1 40 0 0 = 0) : q_15 a b σ = some υ := by
  have e1 : w_waitingAt [ar (0, 0), ai a, ai b, ar (14, 0)] σ = some (.inl (some (ai 0)), (upJ ω v.toInt64)) := by
    show (f_X2_waitingAt [ar (0, 0), ai a, ai b] σ).bind _ = _
    rw [hf]
    exact if_pos hs
  unfold q_15
  rw [e1, Option.bind_some]
  dsimp only
  rw [hm, Option.bind_some]
  dsimp only
  rw [e_thrown, Option.bind_some]
  exact if_pos ⟨hs, F.sl, sleB_refl _, hk, fun _ => by rw [F.1]; rfl⟩
theorem qe1_15 (hf : f_X2_waitingAt [ar (0, 0), ai a, ai b] σ = some (.inr 1, grw σ 1 6)) (hm : f_X3_waitingAt [ar (11, 0), ai a, ai b] (grw σ 1 6) = some (.inl (some (ai v)), υ)) (F : Fp (grw σ 1 6) υ) (hk : υ.1 40 0 0 = 1) : q_15 a b σ = some υ := by
  have e1 : w_waitingAt [ar (0, 0), ai a, ai b, ar (14, 0)] σ = some (.inl (some (ai 1)), grw σ 1 6) := by
    show (f_X2_waitingAt [ar (0, 0), ai a, ai b] σ).bind _ = _
    rw [hf]
    exact if_pos sl_grw
  unfold q_15
  rw [e1, Option.bind_some]
  dsimp only
  rw [hm, Option.bind_some]
  dsimp only
  rw [e_thrown, Option.bind_some]
  exact if_pos ⟨sl_grw, F.sl, sleB_refl _, hk, fun q => absurd q (by decide)⟩
theorem qk_16 (hf : f_X2_needs [ar (0, 0), ai a, ai b] σ = some (.inl (some (ai v)), ω)) (hs : sleB σ ω = true) (hm : f_X3_needs [ar (11, 0), ai a, ai b] (upJ ω v.toInt64) = some (.inl (some (ai v)), υ)) (F : Fp (upJ ω v.toInt64) υ) (hk : υ.1 40 0 0 = 0) : q_16 a b σ = some υ := by
  have e1 : w_needs [ar (0, 0), ai a, ai b, ar (14, 0)] σ = some (.inl (some (ai 0)), (upJ ω v.toInt64)) := by
    show (f_X2_needs [ar (0, 0), ai a, ai b] σ).bind _ = _
    rw [hf]
    exact if_pos hs
  unfold q_16
  rw [e1, Option.bind_some]
  dsimp only
  rw [hm, Option.bind_some]
  dsimp only
  rw [e_thrown, Option.bind_some]
  exact if_pos ⟨hs, F.sl, sleB_refl _, hk, fun _ => by rw [F.1]; rfl⟩
theorem qe1_16 (hf : f_X2_needs [ar (0, 0), ai a, ai b] σ = some (.inr 1, grw σ 1 6)) (hm : f_X3_needs [ar (11, 0), ai a, ai b] (grw σ 1 6) = some (.inl (some (ai v)), υ)) (F : Fp (grw σ 1 6) υ) (hk : υ.1 40 0 0 = 1) : q_16 a b σ = some υ := by
  have e1 : w_needs [ar (0, 0), ai a, ai b, ar (14, 0)] σ = some (.inl (some (ai 1)), grw σ 1 6) := by
    show (f_X2_needs [ar (0, 0), ai a, ai b] σ).bind _ = _
    rw [hf]
    exact if_pos sl_grw
  unfold q_16
  rw [e1, Option.bind_some]
  dsimp only
  rw [hm, Option.bind_some]
  dsimp only
  rw [e_thrown, Option.bind_some]
  exact if_pos ⟨sl_grw, F.sl, sleB_refl _, hk, fun q => absurd q (by decide)⟩
theorem qk_17 (hf : f_X2_firstNeeded [ar (0, 0), ai a, ai b] σ = some (.inl (some (ai v)), ω)) (hs : sleB σ ω = true) (hm : f_X3_firstNeeded [ar (11, 0), ai a, ai b] (upJ ω v.toInt64) = some (.inl (some (ai v)), υ)) (F : Fp (upJ ω v.toInt64) υ) (hk : υ.1 40 0 0 = 0) : q_17 a b σ = some υ := by
  have e1 : w_firstNeeded [ar (0, 0), ai a, ai b, ar (14, 0)] σ = some (.inl (some (ai 0)), (upJ ω v.toInt64)) := by
    show (f_X2_firstNeeded [ar (0, 0), ai a, ai b] σ).bind _ = _
    rw [hf]
    exact if_pos hs
  unfold q_17
  rw [e1, Option.bind_some]
  dsimp only
  rw [hm, Option.bind_some]
  dsimp only
  rw [e_thrown, Option.bind_some]
  exact if_pos ⟨hs, F.sl, sleB_refl _, hk, fun _ => by rw [F.1]; rfl⟩
theorem qe1_17 (hf : f_X2_firstNeeded [ar (0, 0), ai a, ai b] σ = some (.inr 1, grw σ 1 6)) (hm : f_X3_firstNeeded [ar (11, 0), ai a, ai b] (grw σ 1 6) = some (.inl (some (ai v)), υ)) (F : Fp (grw σ 1 6) υ) (hk : υ.1 40 0 0 = 1) : q_17 a b σ = some υ := by
  have e1 : w_firstNeeded [ar (0, 0), ai a, ai b, ar (14, 0)] σ = some (.inl (some (ai 1)), grw σ 1 6) := by
    show (f_X2_firstNeeded [ar (0, 0), ai a, ai b] σ).bind _ = _
    rw [hf]
    exact if_pos sl_grw
  unfold q_17
  rw [e1, Option.bind_some]
  dsimp only
  rw [hm, Option.bind_some]
  dsimp only
  rw [e_thrown, Option.bind_some]
  exact if_pos ⟨sl_grw, F.sl, sleB_refl _, hk, fun q => absurd q (by decide)⟩
theorem qk_18 (hf : f_X2_holder [ar (0, 0)] σ = some (.inl (some (ai v)), σ)) (hm : f_X3_holder [ar (11, 0)] σ = some (.inl (some (ai v)), υ)) (F : Fp σ υ) : q_18 a b σ = some υ := by
  unfold q_18
  rw [hf, Option.bind_some]
  dsimp only
  rw [hm, Option.bind_some]
  exact if_pos ⟨sleB_refl _, F.sl, rfl⟩
theorem qk_19 (hf : f_X2_passToken [ar (0, 0), ai a] σ = some (.inl (some (ai v)), ω)) (hs : sleB σ ω = true) (hm : f_X3_passToken [ar (11, 0), ai a] (upJ ω v.toInt64) = some (.inl (some (ai v)), υ)) (F : Fp (upJ ω v.toInt64) υ) (hk : υ.1 40 0 0 = 0) : q_19 a b σ = some υ := by
  have e1 : w_passToken [ar (0, 0), ai a, ar (14, 0)] σ = some (.inl (some (ai 0)), (upJ ω v.toInt64)) := by
    show (f_X2_passToken [ar (0, 0), ai a] σ).bind _ = _
    rw [hf]
    exact if_pos hs
  unfold q_19
  rw [e1, Option.bind_some]
  dsimp only
  rw [hm, Option.bind_some]
  dsimp only
  rw [e_thrown, Option.bind_some]
  exact if_pos ⟨hs, F.sl, sleB_refl _, hk, fun _ => by rw [F.1]; rfl⟩
theorem qe1_19 (hf : f_X2_passToken [ar (0, 0), ai a] σ = some (.inr 1, grw σ 1 6)) (hm : f_X3_passToken [ar (11, 0), ai a] (grw σ 1 6) = some (.inl (some (ai v)), υ)) (F : Fp (grw σ 1 6) υ) (hk : υ.1 40 0 0 = 1) : q_19 a b σ = some υ := by
  have e1 : w_passToken [ar (0, 0), ai a, ar (14, 0)] σ = some (.inl (some (ai 1)), grw σ 1 6) := by
    show (f_X2_passToken [ar (0, 0), ai a] σ).bind _ = _
    rw [hf]
    exact if_pos sl_grw
  unfold q_19
  rw [e1, Option.bind_some]
  dsimp only
  rw [hm, Option.bind_some]
  dsimp only
  rw [e_thrown, Option.bind_some]
  exact if_pos ⟨sl_grw, F.sl, sleB_refl _, hk, fun q => absurd q (by decide)⟩
theorem qe2_19 (hf : f_X2_passToken [ar (0, 0), ai a] σ = some (.inr 2, grw σ 1 6)) (hm : f_X3_passToken [ar (11, 0), ai a] (grw σ 1 6) = some (.inl (some (ai v)), υ)) (F : Fp (grw σ 1 6) υ) (hk : υ.1 40 0 0 = 2) : q_19 a b σ = some υ := by
  have e1 : w_passToken [ar (0, 0), ai a, ar (14, 0)] σ = some (.inl (some (ai 2)), grw σ 1 6) := by
    show (f_X2_passToken [ar (0, 0), ai a] σ).bind _ = _
    rw [hf]
    exact if_pos sl_grw
  unfold q_19
  rw [e1, Option.bind_some]
  dsimp only
  rw [hm, Option.bind_some]
  dsimp only
  rw [e_thrown, Option.bind_some]
  exact if_pos ⟨sl_grw, F.sl, sleB_refl _, hk, fun q => absurd q (by decide)⟩
theorem qk_20 (hf : f_X2_tell [ar (0, 0), ai a] σ = some (.inl (some (ai v)), ω)) (hs : sleB σ ω = true) (hm : f_X3_tell [ar (11, 0), ai a] (upJ ω v.toInt64) = some (.inl (some (ai v)), υ)) (F : Fp (upJ ω v.toInt64) υ) (hk : υ.1 40 0 0 = 0) : q_20 a b σ = some υ := by
  have e1 : w_tell [ar (0, 0), ai a, ar (14, 0)] σ = some (.inl (some (ai 0)), (upJ ω v.toInt64)) := by
    show (f_X2_tell [ar (0, 0), ai a] σ).bind _ = _
    rw [hf]
    exact if_pos hs
  unfold q_20
  rw [e1, Option.bind_some]
  dsimp only
  rw [hm, Option.bind_some]
  dsimp only
  rw [e_thrown, Option.bind_some]
  exact if_pos ⟨hs, F.sl, sleB_refl _, hk, fun _ => by rw [F.1]; rfl⟩
theorem qe1_20 (hf : f_X2_tell [ar (0, 0), ai a] σ = some (.inr 1, grw σ 1 6)) (hm : f_X3_tell [ar (11, 0), ai a] (grw σ 1 6) = some (.inl (some (ai v)), υ)) (F : Fp (grw σ 1 6) υ) (hk : υ.1 40 0 0 = 1) : q_20 a b σ = some υ := by
  have e1 : w_tell [ar (0, 0), ai a, ar (14, 0)] σ = some (.inl (some (ai 1)), grw σ 1 6) := by
    show (f_X2_tell [ar (0, 0), ai a] σ).bind _ = _
    rw [hf]
    exact if_pos sl_grw
  unfold q_20
  rw [e1, Option.bind_some]
  dsimp only
  rw [hm, Option.bind_some]
  dsimp only
  rw [e_thrown, Option.bind_some]
  exact if_pos ⟨sl_grw, F.sl, sleB_refl _, hk, fun q => absurd q (by decide)⟩
theorem qe2_20 (hf : f_X2_tell [ar (0, 0), ai a] σ = some (.inr 2, grw σ 1 6)) (hm : f_X3_tell [ar (11, 0), ai a] (grw σ 1 6) = some (.inl (some (ai v)), υ)) (F : Fp (grw σ 1 6) υ) (hk : υ.1 40 0 0 = 2) : q_20 a b σ = some υ := by
  have e1 : w_tell [ar (0, 0), ai a, ar (14, 0)] σ = some (.inl (some (ai 2)), grw σ 1 6) := by
    show (f_X2_tell [ar (0, 0), ai a] σ).bind _ = _
    rw [hf]
    exact if_pos sl_grw
  unfold q_20
  rw [e1, Option.bind_some]
  dsimp only
  rw [hm, Option.bind_some]
  dsimp only
  rw [e_thrown, Option.bind_some]
  exact if_pos ⟨sl_grw, F.sl, sleB_refl _, hk, fun q => absurd q (by decide)⟩
theorem qk_21 (hf : f_X2_numbered [ar (0, 0)] σ = some (.inl (some (ai v)), σ)) (hm : f_X3_numbered [ar (11, 0)] σ = some (.inl (some (ai v)), υ)) (F : Fp σ υ) : q_21 a b σ = some υ := by
  unfold q_21
  rw [hf, Option.bind_some]
  dsimp only
  rw [hm, Option.bind_some]
  exact if_pos ⟨sleB_refl _, F.sl, rfl⟩
theorem qk_22 (hf : f_X2_numberOf [ar (0, 0), ai a] σ = some (.inl (some (ai v)), ω)) (hs : sleB σ ω = true) (hm : f_X3_numberOf [ar (11, 0), ai a] (upJ ω v.toInt64) = some (.inl (some (ai v)), υ)) (F : Fp (upJ ω v.toInt64) υ) (hk : υ.1 40 0 0 = 0) : q_22 a b σ = some υ := by
  have e1 : w_numberOf [ar (0, 0), ai a, ar (14, 0)] σ = some (.inl (some (ai 0)), (upJ ω v.toInt64)) := by
    show (f_X2_numberOf [ar (0, 0), ai a] σ).bind _ = _
    rw [hf]
    exact if_pos hs
  unfold q_22
  rw [e1, Option.bind_some]
  dsimp only
  rw [hm, Option.bind_some]
  dsimp only
  rw [e_thrown, Option.bind_some]
  exact if_pos ⟨hs, F.sl, sleB_refl _, hk, fun _ => by rw [F.1]; rfl⟩
theorem qe1_22 (hf : f_X2_numberOf [ar (0, 0), ai a] σ = some (.inr 1, grw σ 1 6)) (hm : f_X3_numberOf [ar (11, 0), ai a] (grw σ 1 6) = some (.inl (some (ai v)), υ)) (F : Fp (grw σ 1 6) υ) (hk : υ.1 40 0 0 = 1) : q_22 a b σ = some υ := by
  have e1 : w_numberOf [ar (0, 0), ai a, ar (14, 0)] σ = some (.inl (some (ai 1)), grw σ 1 6) := by
    show (f_X2_numberOf [ar (0, 0), ai a] σ).bind _ = _
    rw [hf]
    exact if_pos sl_grw
  unfold q_22
  rw [e1, Option.bind_some]
  dsimp only
  rw [hm, Option.bind_some]
  dsimp only
  rw [e_thrown, Option.bind_some]
  exact if_pos ⟨sl_grw, F.sl, sleB_refl _, hk, fun q => absurd q (by decide)⟩
theorem qk_23 (hf : f_X2_ordered [ar (0, 0), ai a] σ = some (.inl (some (ai v)), ω)) (hs : sleB σ ω = true) (hm : f_X3_ordered [ar (11, 0), ai a] (upJ ω v.toInt64) = some (.inl (some (ai v)), υ)) (F : Fp (upJ ω v.toInt64) υ) (hk : υ.1 40 0 0 = 0) : q_23 a b σ = some υ := by
  have e1 : w_ordered [ar (0, 0), ai a, ar (14, 0)] σ = some (.inl (some (ai 0)), (upJ ω v.toInt64)) := by
    show (f_X2_ordered [ar (0, 0), ai a] σ).bind _ = _
    rw [hf]
    exact if_pos hs
  unfold q_23
  rw [e1, Option.bind_some]
  dsimp only
  rw [hm, Option.bind_some]
  dsimp only
  rw [e_thrown, Option.bind_some]
  exact if_pos ⟨hs, F.sl, sleB_refl _, hk, fun _ => by rw [F.1]; rfl⟩
theorem qe1_23 (hf : f_X2_ordered [ar (0, 0), ai a] σ = some (.inr 1, grw σ 1 6)) (hm : f_X3_ordered [ar (11, 0), ai a] (grw σ 1 6) = some (.inl (some (ai v)), υ)) (F : Fp (grw σ 1 6) υ) (hk : υ.1 40 0 0 = 1) : q_23 a b σ = some υ := by
  have e1 : w_ordered [ar (0, 0), ai a, ar (14, 0)] σ = some (.inl (some (ai 1)), grw σ 1 6) := by
    show (f_X2_ordered [ar (0, 0), ai a] σ).bind _ = _
    rw [hf]
    exact if_pos sl_grw
  unfold q_23
  rw [e1, Option.bind_some]
  dsimp only
  rw [hm, Option.bind_some]
  dsimp only
  rw [e_thrown, Option.bind_some]
  exact if_pos ⟨sl_grw, F.sl, sleB_refl _, hk, fun q => absurd q (by decide)⟩
theorem qk_24 (hf : f_X2_proposal [ar (0, 0), ai a, ai b] σ = some (.inl (some (ai v)), ω)) (hs : sleB σ ω = true) (hm : f_X3_proposal [ar (11, 0), ai a, ai b] (upJ ω v.toInt64) = some (.inl (some (ai v)), υ)) (F : Fp (upJ ω v.toInt64) υ) (hk : υ.1 40 0 0 = 0) : q_24 a b σ = some υ := by
  have e1 : w_proposal [ar (0, 0), ai a, ai b, ar (14, 0)] σ = some (.inl (some (ai 0)), (upJ ω v.toInt64)) := by
    show (f_X2_proposal [ar (0, 0), ai a, ai b] σ).bind _ = _
    rw [hf]
    exact if_pos hs
  unfold q_24
  rw [e1, Option.bind_some]
  dsimp only
  rw [hm, Option.bind_some]
  dsimp only
  rw [e_thrown, Option.bind_some]
  exact if_pos ⟨hs, F.sl, sleB_refl _, hk, fun _ => by rw [F.1]; rfl⟩
theorem qe1_24 (hf : f_X2_proposal [ar (0, 0), ai a, ai b] σ = some (.inr 1, grw σ 1 6)) (hm : f_X3_proposal [ar (11, 0), ai a, ai b] (grw σ 1 6) = some (.inl (some (ai v)), υ)) (F : Fp (grw σ 1 6) υ) (hk : υ.1 40 0 0 = 1) : q_24 a b σ = some υ := by
  have e1 : w_proposal [ar (0, 0), ai a, ai b, ar (14, 0)] σ = some (.inl (some (ai 1)), grw σ 1 6) := by
    show (f_X2_proposal [ar (0, 0), ai a, ai b] σ).bind _ = _
    rw [hf]
    exact if_pos sl_grw
  unfold q_24
  rw [e1, Option.bind_some]
  dsimp only
  rw [hm, Option.bind_some]
  dsimp only
  rw [e_thrown, Option.bind_some]
  exact if_pos ⟨sl_grw, F.sl, sleB_refl _, hk, fun q => absurd q (by decide)⟩
theorem qk_25 (hf : f_X2_agreed [ar (0, 0), ai a] σ = some (.inl (some (ai v)), ω)) (hs : sleB σ ω = true) (hm : f_X3_agreed [ar (11, 0), ai a] (upJ ω v.toInt64) = some (.inl (some (ai v)), υ)) (F : Fp (upJ ω v.toInt64) υ) (hk : υ.1 40 0 0 = 0) : q_25 a b σ = some υ := by
  have e1 : w_agreed [ar (0, 0), ai a, ar (14, 0)] σ = some (.inl (some (ai 0)), (upJ ω v.toInt64)) := by
    show (f_X2_agreed [ar (0, 0), ai a] σ).bind _ = _
    rw [hf]
    exact if_pos hs
  unfold q_25
  rw [e1, Option.bind_some]
  dsimp only
  rw [hm, Option.bind_some]
  dsimp only
  rw [e_thrown, Option.bind_some]
  exact if_pos ⟨hs, F.sl, sleB_refl _, hk, fun _ => by rw [F.1]; rfl⟩
theorem qe1_25 (hf : f_X2_agreed [ar (0, 0), ai a] σ = some (.inr 1, grw σ 1 6)) (hm : f_X3_agreed [ar (11, 0), ai a] (grw σ 1 6) = some (.inl (some (ai v)), υ)) (F : Fp (grw σ 1 6) υ) (hk : υ.1 40 0 0 = 1) : q_25 a b σ = some υ := by
  have e1 : w_agreed [ar (0, 0), ai a, ar (14, 0)] σ = some (.inl (some (ai 1)), grw σ 1 6) := by
    show (f_X2_agreed [ar (0, 0), ai a] σ).bind _ = _
    rw [hf]
    exact if_pos sl_grw
  unfold q_25
  rw [e1, Option.bind_some]
  dsimp only
  rw [hm, Option.bind_some]
  dsimp only
  rw [e_thrown, Option.bind_some]
  exact if_pos ⟨sl_grw, F.sl, sleB_refl _, hk, fun q => absurd q (by decide)⟩
theorem qk_26 (hf : f_X2_agreedAt [ar (0, 0), ai a] σ = some (.inl (some (ai v)), ω)) (hs : sleB σ ω = true) (hm : f_X3_agreedAt [ar (11, 0), ai a] (upJ ω v.toInt64) = some (.inl (some (ai v)), υ)) (F : Fp (upJ ω v.toInt64) υ) (hk : υ.1 40 0 0 = 0) : q_26 a b σ = some υ := by
  have e1 : w_agreedAt [ar (0, 0), ai a, ar (14, 0)] σ = some (.inl (some (ai 0)), (upJ ω v.toInt64)) := by
    show (f_X2_agreedAt [ar (0, 0), ai a] σ).bind _ = _
    rw [hf]
    exact if_pos hs
  unfold q_26
  rw [e1, Option.bind_some]
  dsimp only
  rw [hm, Option.bind_some]
  dsimp only
  rw [e_thrown, Option.bind_some]
  exact if_pos ⟨hs, F.sl, sleB_refl _, hk, fun _ => by rw [F.1]; rfl⟩
theorem qe1_26 (hf : f_X2_agreedAt [ar (0, 0), ai a] σ = some (.inr 1, grw σ 1 6)) (hm : f_X3_agreedAt [ar (11, 0), ai a] (grw σ 1 6) = some (.inl (some (ai v)), υ)) (F : Fp (grw σ 1 6) υ) (hk : υ.1 40 0 0 = 1) : q_26 a b σ = some υ := by
  have e1 : w_agreedAt [ar (0, 0), ai a, ar (14, 0)] σ = some (.inl (some (ai 1)), grw σ 1 6) := by
    show (f_X2_agreedAt [ar (0, 0), ai a] σ).bind _ = _
    rw [hf]
    exact if_pos sl_grw
  unfold q_26
  rw [e1, Option.bind_some]
  dsimp only
  rw [hm, Option.bind_some]
  dsimp only
  rw [e_thrown, Option.bind_some]
  exact if_pos ⟨sl_grw, F.sl, sleB_refl _, hk, fun q => absurd q (by decide)⟩
theorem qk_27 (hf : f_X2_fail [ar (0, 0), ai a] σ = some (.inl none, ω)) (hs : sleB σ ω = true) (hm : f_X3_fail [ar (11, 0), ai a] ω = some (.inl none, υ)) (F : Fp ω υ) (hk : υ.1 40 0 0 = 0) : q_27 a b σ = some υ := by
  have e1 : w_fail [ar (0, 0), ai a] σ = some (.inl (some (ai 0)), ω) := by
    show (f_X2_fail [ar (0, 0), ai a] σ).bind _ = _
    rw [hf]
    exact if_pos hs
  unfold q_27
  rw [e1, Option.bind_some]
  dsimp only
  rw [hm, Option.bind_some]
  dsimp only
  rw [e_thrown, Option.bind_some]
  exact if_pos ⟨hs, F.sl, sleB_refl _, hk⟩
theorem qe1_27 (hf : f_X2_fail [ar (0, 0), ai a] σ = some (.inr 1, grw σ 1 6)) (hm : f_X3_fail [ar (11, 0), ai a] (grw σ 1 6) = some (.inl none, υ)) (F : Fp (grw σ 1 6) υ) (hk : υ.1 40 0 0 = 1) : q_27 a b σ = some υ := by
  have e1 : w_fail [ar (0, 0), ai a] σ = some (.inl (some (ai 1)), grw σ 1 6) := by
    show (f_X2_fail [ar (0, 0), ai a] σ).bind _ = _
    rw [hf]
    exact if_pos sl_grw
  unfold q_27
  rw [e1, Option.bind_some]
  dsimp only
  rw [hm, Option.bind_some]
  dsimp only
  rw [e_thrown, Option.bind_some]
  exact if_pos ⟨sl_grw, F.sl, sleB_refl _, hk⟩
theorem qe2_27 (hf : f_X2_fail [ar (0, 0), ai a] σ = some (.inr 2, grw σ 1 6)) (hm : f_X3_fail [ar (11, 0), ai a] (grw σ 1 6) = some (.inl none, υ)) (F : Fp (grw σ 1 6) υ) (hk : υ.1 40 0 0 = 2) : q_27 a b σ = some υ := by
  have e1 : w_fail [ar (0, 0), ai a] σ = some (.inl (some (ai 2)), grw σ 1 6) := by
    show (f_X2_fail [ar (0, 0), ai a] σ).bind _ = _
    rw [hf]
    exact if_pos sl_grw
  unfold q_27
  rw [e1, Option.bind_some]
  dsimp only
  rw [hm, Option.bind_some]
  dsimp only
  rw [e_thrown, Option.bind_some]
  exact if_pos ⟨sl_grw, F.sl, sleB_refl _, hk⟩
theorem qk_28 (hf : f_X2_flush [ar (0, 0)] σ = some (.inl (some (ai v)), ω)) (hs : sleB σ ω = true) (hm : f_X3_flush [ar (11, 0)] (upJ ω v.toInt64) = some (.inl (some (ai v)), υ)) (F : Fp (upJ ω v.toInt64) υ) (hk : υ.1 40 0 0 = 0) : q_28 a b σ = some υ := by
  have e1 : w_flush [ar (0, 0), ar (14, 0)] σ = some (.inl (some (ai 0)), (upJ ω v.toInt64)) := by
    show (f_X2_flush [ar (0, 0)] σ).bind _ = _
    rw [hf]
    exact if_pos hs
  unfold q_28
  rw [e1, Option.bind_some]
  dsimp only
  rw [hm, Option.bind_some]
  dsimp only
  rw [e_thrown, Option.bind_some]
  exact if_pos ⟨hs, F.sl, sleB_refl _, hk, fun _ => by rw [F.1]; rfl⟩
theorem qe2_28 (hf : f_X2_flush [ar (0, 0)] σ = some (.inr 2, grw σ 1 6)) (hm : f_X3_flush [ar (11, 0)] (grw σ 1 6) = some (.inl (some (ai v)), υ)) (F : Fp (grw σ 1 6) υ) (hk : υ.1 40 0 0 = 1) : q_28 a b σ = some υ := by
  have e1 : w_flush [ar (0, 0), ar (14, 0)] σ = some (.inl (some (ai 1)), grw σ 1 6) := by
    show (f_X2_flush [ar (0, 0)] σ).bind _ = _
    rw [hf]
    exact if_pos sl_grw
  unfold q_28
  rw [e1, Option.bind_some]
  dsimp only
  rw [hm, Option.bind_some]
  dsimp only
  rw [e_thrown, Option.bind_some]
  exact if_pos ⟨sl_grw, F.sl, sleB_refl _, hk, fun q => absurd q (by decide)⟩
theorem qk_29 (hf : f_X2_isAlive [ar (0, 0), ai a] σ = some (.inl (some (ai v)), ω)) (hs : sleB σ ω = true) (hm : f_X3_isAlive [ar (11, 0), ai a] (upJ ω (b2l v)) = some (.inl (some (ai v)), υ)) (F : Fp (upJ ω (b2l v)) υ) (hk : υ.1 40 0 0 = 0) : q_29 a b σ = some υ := by
  have e1 : w_isAlive [ar (0, 0), ai a, ar (14, 0)] σ = some (.inl (some (ai 0)), (upJ ω (b2l v))) := by
    show (f_X2_isAlive [ar (0, 0), ai a] σ).bind _ = _
    rw [hf]
    exact if_pos hs
  unfold q_29
  rw [e1, Option.bind_some]
  dsimp only
  rw [hm, Option.bind_some]
  dsimp only
  rw [e_thrown, Option.bind_some]
  exact if_pos ⟨hs, F.sl, sleB_refl _, hk, fun _ => by rw [F.1]; rfl⟩
theorem qe1_29 (hf : f_X2_isAlive [ar (0, 0), ai a] σ = some (.inr 1, grw σ 1 6)) (hm : f_X3_isAlive [ar (11, 0), ai a] (grw σ 1 6) = some (.inl (some (ai v)), υ)) (F : Fp (grw σ 1 6) υ) (hk : υ.1 40 0 0 = 1) : q_29 a b σ = some υ := by
  have e1 : w_isAlive [ar (0, 0), ai a, ar (14, 0)] σ = some (.inl (some (ai 1)), grw σ 1 6) := by
    show (f_X2_isAlive [ar (0, 0), ai a] σ).bind _ = _
    rw [hf]
    exact if_pos sl_grw
  unfold q_29
  rw [e1, Option.bind_some]
  dsimp only
  rw [hm, Option.bind_some]
  dsimp only
  rw [e_thrown, Option.bind_some]
  exact if_pos ⟨sl_grw, F.sl, sleB_refl _, hk, fun q => absurd q (by decide)⟩
theorem qk_30 (hf : f_X2_view [ar (0, 0)] σ = some (.inl (some (ai v)), σ)) (hm : f_X3_view [ar (11, 0)] σ = some (.inl (some (ai v)), υ)) (F : Fp σ υ) : q_30 a b σ = some υ := by
  unfold q_30
  rw [hf, Option.bind_some]
  dsimp only
  rw [hm, Option.bind_some]
  exact if_pos ⟨sleB_refl _, F.sl, rfl⟩
end QQ
