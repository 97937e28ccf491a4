-- 99z.ivc: the owed statement
theorem pure_goal : PureGoal := goal_of (fun K _ _ h => s_compare K h) init_eq first_rel
theorem i_vc : Claimed_1_1 ∧ Claimed_1_2 := i_vc_open pure_goal
