/-! every call but image: both answer alike, and the relation holds behind it -/
def ANS (dX dM : Nat) (qX qM : MI) (As : List Value) (K : Bool) (kk h m : HP) : Prop := ∃ (h' m' : HP) (r : Int32), (∀ sh, S_TJ sh 0 → Ex dX qX sh (.ref 0 :: As) h (some (.int r)) h') ∧ (∀ sh, S_Mo sh 0 → Ex dM qM sh (.ref 0 :: As) m (some (.int r)) m') ∧ RA K kk h' m'
def ANL (dX dM : Nat) (qX qM : MI) (As : List Value) (K : Bool) (kk h m : HP) : Prop := ∃ (h' m' : HP) (r : Int64), (∀ sh, S_TJ sh 0 → Ex dX qX sh (.ref 0 :: As) h (some (.long r)) h') ∧ (∀ sh, S_Mo sh 0 → Ex dM qM sh (.ref 0 :: As) m (some (.long r)) m') ∧ RA K kk h' m'
section AN
variable {K : Bool} {kk h m : HP}
set_option maxHeartbeats 400000 in
theorem an_kind (A : RA K kk h m) (v1 v2 v3 v4 : Int32) : ANS 4 5 q_TJ_kind q_Mo_kind [.int v1, .int v2, .int v3, .int v4] K kk h m := by
  obtain ⟨r, e1, e2⟩ := q_kind A.1.1.rq v1 v2 v3 v4
  exact ⟨h, m, r, fun sh hS => t_TJ_kind sh 0 hS h v1 v2 v3 v4 r e1, fun sh hS => t_Mo_kind sh 0 hS m v1 v2 v3 v4 r e2, A⟩
set_option maxHeartbeats 400000 in
theorem an_live (A : RA K kk h m) (v1 v2 v3 : Int32) : ANS 5 6 q_TJ_live q_Mo_live [.int v1, .int v2, .int v3] K kk h m := by
  obtain ⟨r, e1, e2⟩ := q_live A.1.1.rq v1 v2 v3
  exact ⟨h, m, r, fun sh hS => t_TJ_live sh 0 hS h v1 v2 v3 r e1, fun sh hS => t_Mo_live sh 0 hS m v1 v2 v3 r e2, A⟩
set_option maxHeartbeats 400000 in
theorem an_crowd (A : RA K kk h m) (v1 v2 : Int32) : ANS 6 6 q_TJ_crowd q_Mo_crowd [.int v1, .int v2] K kk h m := by
  obtain ⟨r, e1, e2⟩ := q_crowd A.1.1.rq v1 v2
  exact ⟨h, m, r, fun sh hS => t_TJ_crowd sh 0 hS h v1 v2 r e1, fun sh hS => t_Mo_crowd sh 0 hS m v1 v2 r e2, A⟩
set_option maxHeartbeats 400000 in
theorem an_matched (A : RA K kk h m) (v1 v2 : Int32) : ANL 6 8 q_TJ_matched q_Mo_matched [.int v1, .int v2] K kk h m := by
  obtain ⟨r, e1, e2⟩ := q_matched A.1.1.rq v1 v2
  exact ⟨h, m, r, fun sh hS => t_TJ_matched sh 0 hS h v1 v2 r e1, fun sh hS => t_Mo_matched sh 0 hS m v1 v2 r e2, A⟩
set_option maxHeartbeats 400000 in
theorem an_weight (A : RA K kk h m) (v1 v2 : Int32) : ANL 3 4 q_TJ_weight q_Mo_weight [.int v1, .int v2] K kk h m := by
  obtain ⟨r, e1, e2⟩ := q_weight A.1.1.rq v1 v2
  exact ⟨h, m, r, fun sh hS => t_TJ_weight sh 0 hS h v1 v2 r e1, fun sh hS => t_Mo_weight sh 0 hS m v1 v2 r e2, A⟩
set_option maxHeartbeats 400000 in
theorem an_kinds (A : RA K kk h m) (v1 : Int32) : ANS 4 5 q_TJ_kinds q_Mo_kinds [.int v1] K kk h m := by
  obtain ⟨r, e1, e2⟩ := q_kinds A.1.1.rq v1
  exact ⟨h, m, r, fun sh hS => t_TJ_kinds sh 0 hS h v1 r e1, fun sh hS => t_Mo_kinds sh 0 hS m v1 r e2, A⟩
set_option maxHeartbeats 400000 in
theorem an_shared (A : RA K kk h m) (v1 : Int32) : ANL 6 6 q_TJ_shared q_Mo_shared [.int v1] K kk h m := by
  obtain ⟨r, e1, e2⟩ := q_shared A.1.1.rq v1
  exact ⟨h, m, r, fun sh hS => t_TJ_shared sh 0 hS h v1 r e1, fun sh hS => t_Mo_shared sh 0 hS m v1 r e2, A⟩
set_option maxHeartbeats 400000 in
theorem an_latest (A : RA K kk h m) (v1 v2 : Int32) : ANS 4 4 q_TJ_latest q_Mo_latest [.int v1, .int v2] K kk h m := by
  obtain ⟨r, e1, e2⟩ := q_latest A.1.1.rq v1 v2
  exact ⟨h, m, r, fun sh hS => t_TJ_latest sh 0 hS h v1 v2 r e1, fun sh hS => t_Mo_latest sh 0 hS m v1 v2 r e2, A⟩
set_option maxHeartbeats 400000 in
theorem an_trouble (A : RA K kk h m) (v1 v2 : Int32) : ANS 1 2 q_TJ_trouble q_Mo_trouble [.int v1, .int v2] K kk h m := by
  obtain ⟨r, e1, e2⟩ := q_trouble A.1.1 v1 v2
  exact ⟨h, m, r, fun sh hS => t_TJ_trouble sh 0 hS h v1 v2 r e1, fun sh hS => t_Mo_trouble sh 0 hS m v1 v2 r e2, A⟩
set_option maxHeartbeats 400000 in
theorem an_active (A : RA K kk h m) (v1 v2 : Int32) : ANS 2 3 q_TJ_active q_Mo_active [.int v1, .int v2] K kk h m := by
  obtain ⟨r, e1, e2⟩ := q_active A.1.1 v1 v2
  exact ⟨h, m, r, fun sh hS => t_TJ_active sh 0 hS h v1 v2 r e1, fun sh hS => t_Mo_active sh 0 hS m v1 v2 r e2, A⟩
set_option maxHeartbeats 400000 in
theorem an_pair (A : RA K kk h m) (v1 v2 : Int32) : ANS 5 6 q_TJ_pair q_Mo_pair [.int v1, .int v2] K kk h m := by
  obtain ⟨r, e1, e2⟩ := q_pair A.1.1 v1 v2
  exact ⟨h, m, r, fun sh hS => t_TJ_pair sh 0 hS h v1 v2 r e1, fun sh hS => t_Mo_pair sh 0 hS m v1 v2 r e2, A⟩
set_option maxHeartbeats 400000 in
theorem an_swept (A : RA K kk h m) (v1 : Int32) : ANS 3 4 q_TJ_swept q_Mo_swept [.int v1] K kk h m := by
  obtain ⟨r, e1, e2⟩ := q_swept A.1.1 v1
  exact ⟨h, m, r, fun sh hS => t_TJ_swept sh 0 hS h v1 r e1, fun sh hS => t_Mo_swept sh 0 hS m v1 r e2, A⟩
set_option maxHeartbeats 400000 in
theorem an_look (A : RA K kk h m) (v1 : Int32) : ANS 7 9 q_TJ_look q_Mo_look [.int v1] K kk h m := by
  obtain ⟨r, e1, e2⟩ := q_look A.1.1 v1
  exact ⟨h, m, r, fun sh hS => t_TJ_look sh 0 hS h v1 r e1, fun sh hS => t_Mo_look sh 0 hS m v1 r e2, A⟩
set_option maxHeartbeats 400000 in
theorem an_converse (A : RA K kk h m) (v1 : Int32) : ANS 3 3 q_TJ_converse q_Mo_converse [.int v1] K kk h m := by
  obtain ⟨r, e1, e2⟩ := q_converse h m v1
  exact ⟨h, m, r, fun sh hS => t_TJ_converse sh 0 hS h v1 r e1, fun sh hS => t_Mo_converse sh 0 hS m v1 r e2, A⟩
set_option maxHeartbeats 400000 in
theorem an_piece (A : RA K kk h m) (v1 v2 v3 v4 : Int32) : ANS 6 9 q_TJ_piece q_Mo_piece [.int v1, .int v2, .int v3, .int v4] K kk h m := by
  obtain ⟨h', m', r, e1, e2, kx, km⟩ := q_piece A.1.1.rq v1 v2 v3 v4
  exact ⟨h', m', r, fun sh hS => t_TJ_piece sh 0 hS h v1 v2 v3 v4 (h', r) e1, fun sh hS => t_Mo_piece sh 0 hS m v1 v2 v3 v4 (m', r) e2, ⟨A.1.a2 kx km, A.2.of km.2.1 km.2.2.1⟩⟩
set_option maxHeartbeats 400000 in
theorem an_row (A : RA K kk h m) (v1 v2 v3 : Int32) : ANS 7 10 q_TJ_row q_Mo_row [.int v1, .int v2, .int v3] K kk h m := by
  obtain ⟨h', m', r, e1, e2, kx, km⟩ := q_row A.1.1.rq v1 v2 v3
  exact ⟨h', m', r, fun sh hS => t_TJ_row sh 0 hS h v1 v2 v3 (h', r) e1, fun sh hS => t_Mo_row sh 0 hS m v1 v2 v3 (m', r) e2, ⟨A.1.a2 kx km, A.2.of km.2.1 km.2.2.1⟩⟩
set_option maxHeartbeats 400000 in
theorem an_left (A : RA K kk h m) (v1 v2 v3 : Int32) : ANS 6 9 q_TJ_left q_Mo_left [.int v1, .int v2, .int v3] K kk h m := by
  obtain ⟨h', m', r, e1, e2, kx, km⟩ := q_left A.1.1.rq v1 v2 v3
  exact ⟨h', m', r, fun sh hS => t_TJ_left sh 0 hS h v1 v2 v3 (h', r) e1, fun sh hS => t_Mo_left sh 0 hS m v1 v2 v3 (m', r) e2, ⟨A.1.a2 kx km, A.2.of km.2.1 km.2.2.1⟩⟩
set_option maxHeartbeats 400000 in
theorem an_steps (A : RA K kk h m) (v1 v2 v3 : Int32) : ANS 6 6 q_TJ_steps q_Mo_steps [.int v1, .int v2, .int v3] K kk h m := by
  obtain ⟨h', m', r, e1, e2, kx, km⟩ := q_steps A.1.1.rq v1 v2 v3
  exact ⟨h', m', r, fun sh hS => t_TJ_steps sh 0 hS h v1 v2 v3 (h', r) e1, fun sh hS => t_Mo_steps sh 0 hS m v1 v2 v3 (m', r) e2, ⟨A.1.a2 kx km, A.2.of km.2.1 km.2.2.1⟩⟩
set_option maxHeartbeats 400000 in
theorem an_split (A : RA K kk h m) (v1 v2 v3 v4 : Int32) : ANS 6 8 q_TJ_split q_Mo_split [.int v1, .int v2, .int v3, .int v4] K kk h m := by
  obtain ⟨h', m', r, e1, e2, kx, km⟩ := q_split A.1.1.rq v1 v2 v3 v4
  exact ⟨h', m', r, fun sh hS => t_TJ_split sh 0 hS h v1 v2 v3 v4 (h', r) e1, fun sh hS => t_Mo_split sh 0 hS m v1 v2 v3 v4 (m', r) e2, ⟨A.1.a2 kx km, A.2.of km.2.1 km.2.2.1⟩⟩
set_option maxHeartbeats 400000 in
theorem an_lane (A : RA K kk h m) (v1 v2 : Int32) : ANS 5 7 q_TJ_lane q_Mo_lane [.int v1, .int v2] K kk h m := by
  obtain ⟨h', m', r, e1, e2, kx, km⟩ := q_lane A.1.1.rq v1 v2
  exact ⟨h', m', r, fun sh hS => t_TJ_lane sh 0 hS h v1 v2 (h', r) e1, fun sh hS => t_Mo_lane sh 0 hS m v1 v2 (m', r) e2, ⟨A.1.a2 kx km, A.2.of km.2.1 km.2.2.1⟩⟩
set_option maxHeartbeats 400000 in
theorem an_one (A : RA K kk h m) (v1 v2 v3 : Int32) : ANS 5 7 q_TJ_one q_Mo_one [.int v1, .int v2, .int v3] K kk h m := by
  obtain ⟨h', m', r, e1, e2, kx, km⟩ := q_one A.1.1.rq v1 v2 v3
  exact ⟨h', m', r, fun sh hS => t_TJ_one sh 0 hS h v1 v2 v3 (h', r) e1, fun sh hS => t_Mo_one sh 0 hS m v1 v2 v3 (m', r) e2, ⟨A.1.a2 kx km, A.2.of km.2.1 km.2.2.1⟩⟩
set_option maxHeartbeats 400000 in
theorem an_chain (A : RA K kk h m) (v1 v2 v3 : Int32) : ANS 3 4 q_TJ_chain q_Mo_chain [.int v1, .int v2, .int v3] K kk h m := by
  obtain ⟨h', r, e1, e2, kx⟩ := q_chain A.1.1.rq v1 v2 v3
  exact ⟨h', m, r, fun sh hS => t_TJ_chain sh 0 hS h v1 v2 v3 (h', r) e1, fun sh hS => t_Mo_chain sh 0 hS m v1 v2 v3 r e2, ⟨A.1.a2 kx ⟨rfl, rfl, rfl, rfl, rfl⟩, A.2⟩⟩
set_option maxHeartbeats 400000 in
theorem an_set (A : RA K kk h m) (v1 v2 : Int32) : ANS 2 2 q_TJ_set q_Mo_set [.int v1, .int v2] K kk h m := by
  obtain ⟨h', m', r, e1, e2, S, kx, km⟩ := q_set A.1.1 v1 v2
  exact ⟨h', m', r, fun sh hS => t_TJ_set sh 0 hS h v1 v2 (h', r) e1, fun sh hS => t_Mo_set sh 0 hS m v1 v2 (m', r) e2, ⟨A.1.aS S kx km, A.2.of km.2.1 km.2.2.1⟩⟩
set_option maxHeartbeats 400000 in
theorem an_batch (A : RA K kk h m) (v1 v2 v3 v4 v5 : Int32) : ANS 2 2 q_TJ_batch q_Mo_batch [.int v1, .int v2, .int v3, .int v4, .int v5] K kk h m := by
  obtain ⟨h', m', r, e1, e2, S, kx, km⟩ := q_batch A.1.1 v1 v2 v3 v4 v5
  exact ⟨h', m', r, fun sh hS => t_TJ_batch sh 0 hS h v1 v2 v3 v4 v5 (h', r) e1, fun sh hS => t_Mo_batch sh 0 hS m v1 v2 v3 v4 v5 (m', r) e2, ⟨A.1.aS S kx km, A.2.of km.2.1 km.2.2.1⟩⟩
set_option maxHeartbeats 400000 in
theorem an_clear (A : RA K kk h m) : ANS 1 1 q_TJ_clear q_Mo_clear [] K kk h m := by
  obtain ⟨h', m', r, e1, e2, S, kx, km⟩ := q_clear A.1.1 
  exact ⟨h', m', r, fun sh hS => t_TJ_clear sh 0 hS h  (h', r) e1, fun sh hS => t_Mo_clear sh 0 hS m  (m', r) e2, ⟨A.1.aS S kx km, A.2.of km.2.1 km.2.2.1⟩⟩
set_option maxHeartbeats 400000 in
theorem an_leave (A : RA K kk h m) : ANS 1 2 q_TJ_leave q_Mo_leave [] K kk h m := by
  obtain ⟨h', m', r, e1, e2, S, kx, km⟩ := q_leave A.1.1 
  exact ⟨h', m', r, fun sh hS => t_TJ_leave sh 0 hS h  (h', r) e1, fun sh hS => t_Mo_leave sh 0 hS m  (m', r) e2, ⟨A.1.aS S kx km, A.2.of km.2.1 km.2.2.1⟩⟩
set_option maxHeartbeats 400000 in
theorem an_add (A : RA K kk h m) (v1 v2 v3 v4 v5 v6 : Int32) : ANS 3 5 q_TJ_add q_Mo_add [.int v1, .int v2, .int v3, .int v4, .int v5, .int v6] K kk h m := by
  obtain ⟨h', m', r, e1, e2, S, kx, km⟩ := q_add A.1.1 v1 v2 v3 v4 v5 v6
  exact ⟨h', m', r, fun sh hS => t_TJ_add sh 0 hS h v1 v2 v3 v4 v5 v6 (h', r) e1, fun sh hS => t_Mo_add sh 0 hS m v1 v2 v3 v4 v5 v6 (m', r) e2, ⟨A.1.aS S kx km, A.2.of km.2.1 km.2.2.1⟩⟩
set_option maxHeartbeats 400000 in
theorem an_load (A : RA K kk h m) (v1 : Int32) : ANS 3 5 q_TJ_load q_Mo_load [.int v1] K kk h m := by
  obtain ⟨h', m', r, e1, e2, S, kx, km⟩ := q_load A.1.1 v1
  exact ⟨h', m', r, fun sh hS => t_TJ_load sh 0 hS h v1 (h', r) e1, fun sh hS => t_Mo_load sh 0 hS m v1 (m', r) e2, ⟨A.1.aS S kx km, A.2.of km.2.1 km.2.2.1⟩⟩
set_option maxHeartbeats 400000 in
theorem an_step (A : RA K kk h m) (v1 : Int32) : ANS 7 9 q_TJ_step q_Mo_step [.int v1] K kk h m := by
  obtain ⟨h', m', r, e1, e2, S, kx, km⟩ := q_step A.1.1 v1
  exact ⟨h', m', r, fun sh hS => t_TJ_step sh 0 hS h v1 (h', r) e1, fun sh hS => t_Mo_step sh 0 hS m v1 (m', r) e2, ⟨A.1.aS S kx km, A.2.of km.2.1 km.2.2.1⟩⟩
set_option maxHeartbeats 400000 in
theorem an_sweep (A : RA K kk h m) : ANS 4 7 q_TJ_sweep q_Mo_sweep [] K kk h m := by
  obtain ⟨h', m', r, e1, e2, S, kx, km⟩ := q_sweep A.1.1 
  exact ⟨h', m', r, fun sh hS => t_TJ_sweep sh 0 hS h  (h', r) e1, fun sh hS => t_Mo_sweep sh 0 hS m  (m', r) e2, ⟨A.1.aS S kx km, A.2.of km.2.1 km.2.2.1⟩⟩
set_option maxHeartbeats 400000 in
theorem an_compose (A : RA K kk h m) (v1 v2 : Int32) : ANS 4 5 q_TJ_compose q_Mo_compose [.int v1, .int v2] K kk h m := by
  obtain ⟨r, m', e1, e2, C, f0, fa⟩ := q_compose (h := h) A.1.2.2 v1 v2
  exact ⟨h, m', r, fun sh hS => t_TJ_compose sh 0 hS h v1 v2 r e1, fun sh hS => t_Mo_compose sh 0 hS m v1 v2 (m', r) e2, ⟨⟨A.1.1.net (fun _ _ => rfl) (fun j _ => by rw [fa 1 (by decide) (by decide)]), A.1.2.1.w (fun j _ => by rw [fa 1 (by decide) (by decide)]), C⟩, A.2.of (fa 2 (by decide) (by decide)) (f0 2 (by decide))⟩⟩
set_option maxHeartbeats 400000 in
theorem an_net (A : RA K kk h m) (v1 v2 v3 : Int32) : ANS 4 3 q_TJ_net q_Mo_net [.int v1, .int v2, .int v3] K kk h m := by
  obtain ⟨h', m', r, e1, e2, V, fx, fm, m2, m0, C⟩ := q_net A.1.2.1 A.1.2.2 v1 v2 v3
  exact ⟨h', m', r, fun sh hS => t_TJ_net sh 0 hS h v1 v2 v3 (h', r) e1, fun sh hS => t_Mo_net sh 0 hS m v1 v2 v3 (m', r) e2, ⟨A.1.aN V fx fm C, A.2.of m2 (m0 2 (by decide))⟩⟩
set_option maxHeartbeats 400000 in
theorem an_between (A : RA K kk h m) (v1 v2 v3 : Int32) : ANS 6 7 q_TJ_between q_Mo_between [.int v1, .int v2, .int v3] K kk h m := by
  obtain ⟨h', m', r, e1, e2, V, fx, fm, m2, m0, C⟩ := q_between A.1.2.1 A.1.2.2 v1 v2 v3
  exact ⟨h', m', r, fun sh hS => t_TJ_between sh 0 hS h v1 v2 v3 (h', r) e1, fun sh hS => t_Mo_between sh 0 hS m v1 v2 v3 (m', r) e2, ⟨A.1.aN V fx fm C, A.2.of m2 (m0 2 (by decide))⟩⟩
set_option maxHeartbeats 400000 in
theorem an_sound (A : RA K kk h m) : ANS 6 7 q_TJ_sound q_Mo_sound [] K kk h m := by
  obtain ⟨h', m', r, e1, e2, V, fx, fm, m2, m0, C⟩ := q_sound A.1.2.1 A.1.2.2 
  exact ⟨h', m', r, fun sh hS => t_TJ_sound sh 0 hS h  (h', r) e1, fun sh hS => t_Mo_sound sh 0 hS m  (m', r) e2, ⟨A.1.aN V fx fm C, A.2.of m2 (m0 2 (by decide))⟩⟩
set_option maxHeartbeats 400000 in
theorem an_lay (A : RA K kk h m) (v1 v2 : Int32) : ANS 4 5 q_TJ_lay q_Mo_lay [.int v1, .int v2] K kk h m := by
  obtain ⟨h', m', r, e1, e2, V, fx, fm, m2, m0, C⟩ := q_lay A.1.1 A.1.2.1 A.1.2.2 v1 v2
  exact ⟨h', m', r, fun sh hS => t_TJ_lay sh 0 hS h v1 v2 (h', r) e1, fun sh hS => t_Mo_lay sh 0 hS m v1 v2 (m', r) e2, ⟨A.1.aN V fx fm C, A.2.of m2 (m0 2 (by decide))⟩⟩
end AN
