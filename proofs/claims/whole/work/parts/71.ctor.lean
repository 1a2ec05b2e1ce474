/-! THE CONSTRUCTORS: links, and the rules of making cells -/
def iY (m : Nat) : MethodName × ByteArray × Nat := match m with | 0 => (yX0_init, cX0_init, 1) | 1 => (yX1_init, cX1_init, 1) | 2 => (yX2_init, cX2_init, 1) | 3 => (yX3_init, cX3_init, 1) | 4 => (yX4_init, cX4_init, 1) | 5 => (yX5_init, cX5_init, 1) | 6 => (yX6_init, cX6_init, 1) | 7 => (yX7_init, cX7_init, 2) | _ => (yX8_init, cX8_init, 2)
def KLl : List (Nat × Nat × Nat) := [(9, 7, 7), (7, 7, 4), (7, 16, 6), (7, 23, 2), (7, 33, 0), (7, 40, 5), (5, 9, 2), (7, 47, 3), (7, 54, 1), (9, 10, 8)]
set_option maxRecDepth 20000 in
theorem KLl_ok : ∀ q ∈ KLl, Cond.classLink (ownS q.1) q.2.1 (ownS q.2.2) ∈ gw := List.forall_mem_cons.mpr ⟨gw_at 81 (by decide +kernel) rfl, List.forall_mem_cons.mpr ⟨gw_at 89 (by decide +kernel) rfl, List.forall_mem_cons.mpr ⟨gw_at 110 (by decide +kernel) rfl, List.forall_mem_cons.mpr ⟨gw_at 141 (by decide +kernel) rfl, List.forall_mem_cons.mpr ⟨gw_at 217 (by decide +kernel) rfl, List.forall_mem_cons.mpr ⟨gw_at 234 (by decide +kernel) rfl, List.forall_mem_cons.mpr ⟨gw_at 240 (by decide +kernel) rfl, List.forall_mem_cons.mpr ⟨gw_at 263 (by decide +kernel) rfl, List.forall_mem_cons.mpr ⟨gw_at 281 (by decide +kernel) rfl, List.forall_mem_cons.mpr ⟨gw_at 867 (by decide +kernel) rfl, fun _ h => absurd h List.not_mem_nil⟩⟩⟩⟩⟩⟩⟩⟩⟩⟩
def ILl : List (Nat × Nat × Nat) := [(9, 9, 7), (7, 9, 4), (7, 18, 6), (7, 25, 2), (7, 35, 0), (7, 42, 5), (5, 11, 2), (7, 49, 3), (7, 56, 1), (9, 12, 8)]
set_option maxRecDepth 20000 in
theorem ILl_ok : ∀ q ∈ ILl, Cond.methodLink (ownS q.1) q.2.1 (iY q.2.2).1 ∈ gw := List.forall_mem_cons.mpr ⟨gw_at 83 (by decide +kernel) rfl, List.forall_mem_cons.mpr ⟨gw_at 91 (by decide +kernel) rfl, List.forall_mem_cons.mpr ⟨gw_at 112 (by decide +kernel) rfl, List.forall_mem_cons.mpr ⟨gw_at 143 (by decide +kernel) rfl, List.forall_mem_cons.mpr ⟨gw_at 219 (by decide +kernel) rfl, List.forall_mem_cons.mpr ⟨gw_at 236 (by decide +kernel) rfl, List.forall_mem_cons.mpr ⟨gw_at 241 (by decide +kernel) rfl, List.forall_mem_cons.mpr ⟨gw_at 265 (by decide +kernel) rfl, List.forall_mem_cons.mpr ⟨gw_at 283 (by decide +kernel) rfl, List.forall_mem_cons.mpr ⟨gw_at 869 (by decide +kernel) rfl, fun _ h => absurd h List.not_mem_nil⟩⟩⟩⟩⟩⟩⟩⟩⟩⟩
def OIl : List (Nat × Nat × Nat) := [(7, 1, 0), (4, 3, 0), (6, 3, 0), (2, 3, 0), (0, 3, 0), (5, 3, 0), (3, 3, 0), (1, 3, 0), (8, 1, 0)]
set_option maxRecDepth 20000 in
theorem OIl_ok : ∀ q ∈ OIl, Cond.methodLink (ownS q.1) q.2.1 Lib.objectInit ∈ gw := List.forall_mem_cons.mpr ⟨gw_at 86 (by decide +kernel) rfl, List.forall_mem_cons.mpr ⟨gw_at 94 (by decide +kernel) rfl, List.forall_mem_cons.mpr ⟨gw_at 115 (by decide +kernel) rfl, List.forall_mem_cons.mpr ⟨gw_at 146 (by decide +kernel) rfl, List.forall_mem_cons.mpr ⟨gw_at 222 (by decide +kernel) rfl, List.forall_mem_cons.mpr ⟨gw_at 239 (by decide +kernel) rfl, List.forall_mem_cons.mpr ⟨gw_at 268 (by decide +kernel) rfl, List.forall_mem_cons.mpr ⟨gw_at 286 (by decide +kernel) rfl, List.forall_mem_cons.mpr ⟨gw_at 872 (by decide +kernel) rfl, fun _ h => absurd h List.not_mem_nil⟩⟩⟩⟩⟩⟩⟩⟩⟩
theorem oi_inst : Cond.instanceMethod Lib.objectInit ∈ gw := gw_at 87 (by decide +kernel) rfl
set_option maxRecDepth 20000 in
theorem oi_code : Cond.code Lib.objectInit ⟨#[0xb1]⟩ 1 none ∈ gw := gw_at 88 rfl rfl
theorem ac_int : Cond.arrayClass .int ∈ gw := gw_at 109 (by decide +kernel) rfl
theorem ac_bool : Cond.arrayClass .boolean ∈ gw := gw_at 952 (by decide +kernel) rfl
def dfl (ci : Nat) : List Value := match ci with | 0 => [.null, .int 0, .int 0] | 1 => [.null, .int 0, .int 0, .int 0, .int 0, .int 0] | 2 => [.int 0, .int 0, .int 0, .int 0, .int 0, .int 0, .int 0, .int 0, .null, .null, .null, .null, .null, .null] | 3 => [.null, .null, .int 0] | 4 => [.null, .null, .null, .null] | 5 => [.null, .null, .null, .null, .int 0, .int 0] | 6 => [.null, .int 0, .int 0, .int 0, .int 0, .int 0, .int 0] | 7 => [.null, .null, .null, .null, .null, .null, .null, .null, .null, .int 0, .int 0] | _ => [.null, .int 0, .null, .null, .null, .null, .null, .int 0, .null, .int 0, .int 0, .int 0, .int 0, .int 0, .int 0, .int 0, .null, .null, .null, .null, .null, .int 0, .int 0, .null, .null, .int 0]
def CK (ci : Nat) : Prop := ∃ (T : u_T) (ty : Nat → FieldType), vwCl[ci]? = some (ownS ci, T, (dfl ci).length) ∧ (∀ k, k < (dfl ci).length → parseFieldDescriptor (T k).2.2.1 = some (ty k)) ∧ (∀ w ∈ u_ws (ownS ci) T (dfl ci).length, w ∈ gw) ∧ Cond.instantiable (ownS ci) (dfl ci).length ∈ gw ∧ Cond.initialized (ownS ci) ∈ gw ∧ ∀ j, j < (dfl ci).length → defaultValue (ty j) = vp_V (dfl ci) j
set_option maxRecDepth 20000 in
theorem ck_0 : CK 0 := ⟨TX0, tyX0, rfl, tyX0_ok, uw_0, gw_at 218 (by decide +kernel) rfl, gw_at 74 (by decide +kernel) rfl, by decide +kernel⟩
set_option maxRecDepth 20000 in
theorem ck_1 : CK 1 := ⟨TX1, tyX1, rfl, tyX1_ok, uw_1, gw_at 282 (by decide +kernel) rfl, gw_at 77 (by decide +kernel) rfl, by decide +kernel⟩
set_option maxRecDepth 20000 in
theorem ck_2 : CK 2 := ⟨TX2, tyX2, rfl, tyX2_ok, uw_2, gw_at 142 (by decide +kernel) rfl, gw_at 73 (by decide +kernel) rfl, by decide +kernel⟩
set_option maxRecDepth 20000 in
theorem ck_3 : CK 3 := ⟨TX3, tyX3, rfl, tyX3_ok, uw_3, gw_at 264 (by decide +kernel) rfl, gw_at 76 (by decide +kernel) rfl, by decide +kernel⟩
set_option maxRecDepth 20000 in
theorem ck_4 : CK 4 := ⟨TX4, tyX4, rfl, tyX4_ok, uw_4, gw_at 90 (by decide +kernel) rfl, gw_at 71 (by decide +kernel) rfl, by decide +kernel⟩
set_option maxRecDepth 20000 in
theorem ck_5 : CK 5 := ⟨TX5, tyX5, rfl, tyX5_ok, uw_5, gw_at 235 (by decide +kernel) rfl, gw_at 75 (by decide +kernel) rfl, by decide +kernel⟩
set_option maxRecDepth 20000 in
theorem ck_6 : CK 6 := ⟨TX6, tyX6, rfl, tyX6_ok, uw_6, gw_at 111 (by decide +kernel) rfl, gw_at 72 (by decide +kernel) rfl, by decide +kernel⟩
set_option maxRecDepth 20000 in
theorem ck_7 : CK 7 := ⟨TX7, tyX7, rfl, tyX7_ok, uw_7, gw_at 82 (by decide +kernel) rfl, gw_at 70 (by decide +kernel) rfl, by decide +kernel⟩
set_option maxRecDepth 20000 in
theorem ck_8 : CK 8 := ⟨TX8, tyX8, rfl, tyX8_ok, uw_8, gw_at 868 (by decide +kernel) rfl, gw_at 78 (by decide +kernel) rfl, by decide +kernel⟩
theorem ck_all : ∀ ci, ci < 9 → CK ci := fun ci h => by
  match ci, h with
  | 0, _ => exact ck_0
  | 1, _ => exact ck_1
  | 2, _ => exact ck_2
  | 3, _ => exact ck_3
  | 4, _ => exact ck_4
  | 5, _ => exact ck_5
  | 6, _ => exact ck_6
  | 7, _ => exact ck_7
  | 8, _ => exact ck_8
  | n + 9, h => exact absurd h (by omega)
def IK (m : Nat) : Prop := MI (iY m).1 (iY m).2.1 (iY m).2.2 none 0 ∧ Cond.instanceMethod (iY m).1 ∈ gw ∧ (iY m).1.name = "<init>" ∧ (iY m).1.cls = ownS m
set_option maxRecDepth 20000 in
theorem ik_0 : IK 0 := ⟨⟨gw_at 221 rfl rfl, gw_at 74 (by decide +kernel) rfl, by decide +kernel, ⟨by decide +kernel, by decide +kernel, by decide +kernel⟩, Nat.le_of_ble_eq_true rfl⟩, gw_at 220 (by decide +kernel) rfl, rfl, rfl⟩
set_option maxRecDepth 20000 in
theorem ik_1 : IK 1 := ⟨⟨gw_at 285 rfl rfl, gw_at 77 (by decide +kernel) rfl, by decide +kernel, ⟨by decide +kernel, by decide +kernel, by decide +kernel⟩, Nat.le_of_ble_eq_true rfl⟩, gw_at 284 (by decide +kernel) rfl, rfl, rfl⟩
set_option maxRecDepth 20000 in
theorem ik_2 : IK 2 := ⟨⟨gw_at 145 rfl rfl, gw_at 73 (by decide +kernel) rfl, by decide +kernel, ⟨by decide +kernel, by decide +kernel, by decide +kernel⟩, Nat.le_of_ble_eq_true rfl⟩, gw_at 144 (by decide +kernel) rfl, rfl, rfl⟩
set_option maxRecDepth 20000 in
theorem ik_3 : IK 3 := ⟨⟨gw_at 267 rfl rfl, gw_at 76 (by decide +kernel) rfl, by decide +kernel, ⟨by decide +kernel, by decide +kernel, by decide +kernel⟩, Nat.le_of_ble_eq_true rfl⟩, gw_at 266 (by decide +kernel) rfl, rfl, rfl⟩
set_option maxRecDepth 20000 in
theorem ik_4 : IK 4 := ⟨⟨gw_at 93 rfl rfl, gw_at 71 (by decide +kernel) rfl, by decide +kernel, ⟨by decide +kernel, by decide +kernel, by decide +kernel⟩, Nat.le_of_ble_eq_true rfl⟩, gw_at 92 (by decide +kernel) rfl, rfl, rfl⟩
set_option maxRecDepth 20000 in
theorem ik_5 : IK 5 := ⟨⟨gw_at 238 rfl rfl, gw_at 75 (by decide +kernel) rfl, by decide +kernel, ⟨by decide +kernel, by decide +kernel, by decide +kernel⟩, Nat.le_of_ble_eq_true rfl⟩, gw_at 237 (by decide +kernel) rfl, rfl, rfl⟩
set_option maxRecDepth 20000 in
theorem ik_6 : IK 6 := ⟨⟨gw_at 114 rfl rfl, gw_at 72 (by decide +kernel) rfl, by decide +kernel, ⟨by decide +kernel, by decide +kernel, by decide +kernel⟩, Nat.le_of_ble_eq_true rfl⟩, gw_at 113 (by decide +kernel) rfl, rfl, rfl⟩
set_option maxRecDepth 20000 in
theorem ik_7 : IK 7 := ⟨⟨gw_at 85 rfl rfl, gw_at 70 (by decide +kernel) rfl, by decide +kernel, ⟨by decide +kernel, by decide +kernel, by decide +kernel⟩, Nat.le_of_ble_eq_true rfl⟩, gw_at 84 (by decide +kernel) rfl, rfl, rfl⟩
set_option maxRecDepth 20000 in
theorem ik_8 : IK 8 := ⟨⟨gw_at 871 rfl rfl, gw_at 78 (by decide +kernel) rfl, by decide +kernel, ⟨by decide +kernel, by decide +kernel, by decide +kernel⟩, Nat.le_of_ble_eq_true rfl⟩, gw_at 870 (by decide +kernel) rfl, rfl, rfl⟩
theorem ik_all : ∀ m, m < 9 → IK m := fun m h => by
  match m, h with
  | 0, _ => exact ik_0
  | 1, _ => exact ik_1
  | 2, _ => exact ik_2
  | 3, _ => exact ik_3
  | 4, _ => exact ik_4
  | 5, _ => exact ik_5
  | 6, _ => exact ik_6
  | 7, _ => exact ik_7
  | 8, _ => exact ik_8
  | n + 9, h => exact absurd h (by omega)
theorem fr_0_0 : FR RX0 0 0 := ⟨fc_0, RX0, TX0, 3, (.array .int), rfl, rfl, by decide +kernel, fun _ => rfl, fun _ => rfl, rfl⟩
theorem fr_1_0 : FR RX1 1 0 := ⟨fc_1, RX1, TX1, 6, (.array .int), rfl, rfl, by decide +kernel, fun _ => rfl, fun _ => rfl, rfl⟩
theorem fr_2_8 : FR RX2 2 8 := ⟨fc_2, RX2, TX2, 14, (.array .int), rfl, rfl, by decide +kernel, fun _ => rfl, fun _ => rfl, rfl⟩
theorem fr_2_9 : FR RX2 2 9 := ⟨fc_2, RX2, TX2, 14, (.array .int), rfl, rfl, by decide +kernel, fun _ => rfl, fun _ => rfl, rfl⟩
theorem fr_2_10 : FR RX2 2 10 := ⟨fc_2, RX2, TX2, 14, (.array .int), rfl, rfl, by decide +kernel, fun _ => rfl, fun _ => rfl, rfl⟩
theorem fr_2_11 : FR RX2 2 11 := ⟨fc_2, RX2, TX2, 14, (.array .int), rfl, rfl, by decide +kernel, fun _ => rfl, fun _ => rfl, rfl⟩
theorem fr_2_12 : FR RX2 2 12 := ⟨fc_2, RX2, TX2, 14, (.array .int), rfl, rfl, by decide +kernel, fun _ => rfl, fun _ => rfl, rfl⟩
theorem fr_2_13 : FR RX2 2 13 := ⟨fc_2, RX2, TX2, 14, (.array .int), rfl, rfl, by decide +kernel, fun _ => rfl, fun _ => rfl, rfl⟩
theorem fr_3_0 : FR RX3 3 0 := ⟨fc_3, RX3, TX3, 3, (.array .int), rfl, rfl, by decide +kernel, fun _ => rfl, fun _ => rfl, rfl⟩
theorem fr_3_1 : FR RX3 3 1 := ⟨fc_3, RX3, TX3, 3, (.array .int), rfl, rfl, by decide +kernel, fun _ => rfl, fun _ => rfl, rfl⟩
theorem fr_4_0 : FR RX4 4 0 := ⟨fc_4, RX4, TX4, 4, (.array .int), rfl, rfl, by decide +kernel, fun _ => rfl, fun _ => rfl, rfl⟩
theorem fr_4_1 : FR RX4 4 1 := ⟨fc_4, RX4, TX4, 4, (.array .int), rfl, rfl, by decide +kernel, fun _ => rfl, fun _ => rfl, rfl⟩
theorem fr_4_2 : FR RX4 4 2 := ⟨fc_4, RX4, TX4, 4, (.array .int), rfl, rfl, by decide +kernel, fun _ => rfl, fun _ => rfl, rfl⟩
theorem fr_4_3 : FR RX4 4 3 := ⟨fc_4, RX4, TX4, 4, (.array .int), rfl, rfl, by decide +kernel, fun _ => rfl, fun _ => rfl, rfl⟩
theorem fr_5_0 : FR RX5 5 0 := ⟨fc_5, RX5, TX5, 6, (.object "BandPace$Band"), rfl, rfl, by decide +kernel, fun _ => rfl, fun _ => rfl, rfl⟩
theorem fr_5_1 : FR RX5 5 1 := ⟨fc_5, RX5, TX5, 6, (.object "BandPace$Band"), rfl, rfl, by decide +kernel, fun _ => rfl, fun _ => rfl, rfl⟩
theorem fr_5_2 : FR RX5 5 2 := ⟨fc_5, RX5, TX5, 6, (.array .int), rfl, rfl, by decide +kernel, fun _ => rfl, fun _ => rfl, rfl⟩
theorem fr_5_3 : FR RX5 5 3 := ⟨fc_5, RX5, TX5, 6, (.array .int), rfl, rfl, by decide +kernel, fun _ => rfl, fun _ => rfl, rfl⟩
theorem fr_6_0 : FR RX6 6 0 := ⟨fc_6, RX6, TX6, 7, (.array .int), rfl, rfl, by decide +kernel, fun _ => rfl, fun _ => rfl, rfl⟩
theorem fr_7_0 : FR RX7 7 0 := ⟨fc_7, RX7, TX7, 11, (.object "BandPace$Rows"), rfl, rfl, by decide +kernel, fun _ => rfl, fun _ => rfl, rfl⟩
theorem fr_7_1 : FR RX7 7 1 := ⟨fc_7, RX7, TX7, 11, (.object "BandPace$Tape"), rfl, rfl, by decide +kernel, fun _ => rfl, fun _ => rfl, rfl⟩
theorem fr_7_2 : FR RX7 7 2 := ⟨fc_7, RX7, TX7, 11, (.object "BandPace$Band"), rfl, rfl, by decide +kernel, fun _ => rfl, fun _ => rfl, rfl⟩
theorem fr_7_3 : FR RX7 7 3 := ⟨fc_7, RX7, TX7, 11, (.object "BandPace$Band"), rfl, rfl, by decide +kernel, fun _ => rfl, fun _ => rfl, rfl⟩
theorem fr_7_4 : FR RX7 7 4 := ⟨fc_7, RX7, TX7, 11, (.object "BandPace$Acts"), rfl, rfl, by decide +kernel, fun _ => rfl, fun _ => rfl, rfl⟩
theorem fr_7_5 : FR RX7 7 5 := ⟨fc_7, RX7, TX7, 11, (.object "BandPace$Seer"), rfl, rfl, by decide +kernel, fun _ => rfl, fun _ => rfl, rfl⟩
theorem fr_7_6 : FR RX7 7 6 := ⟨fc_7, RX7, TX7, 11, (.object "BandPace$Orders"), rfl, rfl, by decide +kernel, fun _ => rfl, fun _ => rfl, rfl⟩
theorem fr_7_7 : FR RX7 7 7 := ⟨fc_7, RX7, TX7, 11, (.object "BandPace$Asks"), rfl, rfl, by decide +kernel, fun _ => rfl, fun _ => rfl, rfl⟩
theorem fr_7_8 : FR RX7 7 8 := ⟨fc_7, RX7, TX7, 11, (.array (.object "BandPace$Band")), rfl, rfl, by decide +kernel, fun _ => rfl, fun _ => rfl, rfl⟩
theorem fr_8_0 : FR RX8 8 0 := ⟨fc_8, RX8, TX8, 26, (.array .int), rfl, rfl, by decide +kernel, fun _ => rfl, fun _ => rfl, rfl⟩
theorem fr_8_2 : FR RX8 8 2 := ⟨fc_8, RX8, TX8, 26, (.array .boolean), rfl, rfl, by decide +kernel, fun _ => rfl, fun _ => rfl, rfl⟩
theorem fr_8_3 : FR RX8 8 3 := ⟨fc_8, RX8, TX8, 26, (.array .int), rfl, rfl, by decide +kernel, fun _ => rfl, fun _ => rfl, rfl⟩
theorem fr_8_4 : FR RX8 8 4 := ⟨fc_8, RX8, TX8, 26, (.array .int), rfl, rfl, by decide +kernel, fun _ => rfl, fun _ => rfl, rfl⟩
theorem fr_8_5 : FR RX8 8 5 := ⟨fc_8, RX8, TX8, 26, (.array .int), rfl, rfl, by decide +kernel, fun _ => rfl, fun _ => rfl, rfl⟩
theorem fr_8_6 : FR RX8 8 6 := ⟨fc_8, RX8, TX8, 26, (.array .int), rfl, rfl, by decide +kernel, fun _ => rfl, fun _ => rfl, rfl⟩
theorem fr_8_8 : FR RX8 8 8 := ⟨fc_8, RX8, TX8, 26, (.array .int), rfl, rfl, by decide +kernel, fun _ => rfl, fun _ => rfl, rfl⟩
theorem fr_8_16 : FR RX8 8 16 := ⟨fc_8, RX8, TX8, 26, (.array .int), rfl, rfl, by decide +kernel, fun _ => rfl, fun _ => rfl, rfl⟩
theorem fr_8_17 : FR RX8 8 17 := ⟨fc_8, RX8, TX8, 26, (.array .int), rfl, rfl, by decide +kernel, fun _ => rfl, fun _ => rfl, rfl⟩
theorem fr_8_18 : FR RX8 8 18 := ⟨fc_8, RX8, TX8, 26, (.array .int), rfl, rfl, by decide +kernel, fun _ => rfl, fun _ => rfl, rfl⟩
theorem fr_8_19 : FR RX8 8 19 := ⟨fc_8, RX8, TX8, 26, (.array .int), rfl, rfl, by decide +kernel, fun _ => rfl, fun _ => rfl, rfl⟩
theorem fr_8_20 : FR RX8 8 20 := ⟨fc_8, RX8, TX8, 26, (.array .int), rfl, rfl, by decide +kernel, fun _ => rfl, fun _ => rfl, rfl⟩
theorem fr_8_23 : FR RX8 8 23 := ⟨fc_8, RX8, TX8, 26, (.array .int), rfl, rfl, by decide +kernel, fun _ => rfl, fun _ => rfl, rfl⟩
theorem fr_8_24 : FR RX8 8 24 := ⟨fc_8, RX8, TX8, 26, (.array .int), rfl, rfl, by decide +kernel, fun _ => rfl, fun _ => rfl, rfl⟩
def rfl9 : List (Nat × Nat) := [(0, 0), (1, 0), (2, 8), (2, 9), (2, 10), (2, 11), (2, 12), (2, 13), (3, 0), (3, 1), (4, 0), (4, 1), (4, 2), (4, 3), (5, 0), (5, 1), (5, 2), (5, 3), (6, 0), (7, 0), (7, 1), (7, 2), (7, 3), (7, 4), (7, 5), (7, 6), (7, 7), (7, 8), (8, 0), (8, 2), (8, 3), (8, 4), (8, 5), (8, 6), (8, 8), (8, 16), (8, 17), (8, 18), (8, 19), (8, 20), (8, 23), (8, 24)]
theorem rfl9_ok : ∀ q ∈ rfl9, FR (ownS q.1) q.1 q.2 := List.forall_mem_cons.mpr ⟨fr_0_0, List.forall_mem_cons.mpr ⟨fr_1_0, List.forall_mem_cons.mpr ⟨fr_2_8, List.forall_mem_cons.mpr ⟨fr_2_9, List.forall_mem_cons.mpr ⟨fr_2_10, List.forall_mem_cons.mpr ⟨fr_2_11, List.forall_mem_cons.mpr ⟨fr_2_12, List.forall_mem_cons.mpr ⟨fr_2_13, List.forall_mem_cons.mpr ⟨fr_3_0, List.forall_mem_cons.mpr ⟨fr_3_1, List.forall_mem_cons.mpr ⟨fr_4_0, List.forall_mem_cons.mpr ⟨fr_4_1, List.forall_mem_cons.mpr ⟨fr_4_2, List.forall_mem_cons.mpr ⟨fr_4_3, List.forall_mem_cons.mpr ⟨fr_5_0, List.forall_mem_cons.mpr ⟨fr_5_1, List.forall_mem_cons.mpr ⟨fr_5_2, List.forall_mem_cons.mpr ⟨fr_5_3, List.forall_mem_cons.mpr ⟨fr_6_0, List.forall_mem_cons.mpr ⟨fr_7_0, List.forall_mem_cons.mpr ⟨fr_7_1, List.forall_mem_cons.mpr ⟨fr_7_2, List.forall_mem_cons.mpr ⟨fr_7_3, List.forall_mem_cons.mpr ⟨fr_7_4, List.forall_mem_cons.mpr ⟨fr_7_5, List.forall_mem_cons.mpr ⟨fr_7_6, List.forall_mem_cons.mpr ⟨fr_7_7, List.forall_mem_cons.mpr ⟨fr_7_8, List.forall_mem_cons.mpr ⟨fr_8_0, List.forall_mem_cons.mpr ⟨fr_8_2, List.forall_mem_cons.mpr ⟨fr_8_3, List.forall_mem_cons.mpr ⟨fr_8_4, List.forall_mem_cons.mpr ⟨fr_8_5, List.forall_mem_cons.mpr ⟨fr_8_6, List.forall_mem_cons.mpr ⟨fr_8_8, List.forall_mem_cons.mpr ⟨fr_8_16, List.forall_mem_cons.mpr ⟨fr_8_17, List.forall_mem_cons.mpr ⟨fr_8_18, List.forall_mem_cons.mpr ⟨fr_8_19, List.forall_mem_cons.mpr ⟨fr_8_20, List.forall_mem_cons.mpr ⟨fr_8_23, List.forall_mem_cons.mpr ⟨fr_8_24, fun _ h => absurd h List.not_mem_nil⟩⟩⟩⟩⟩⟩⟩⟩⟩⟩⟩⟩⟩⟩⟩⟩⟩⟩⟩⟩⟩⟩⟩⟩⟩⟩⟩⟩⟩⟩⟩⟩⟩⟩⟩⟩⟩⟩⟩⟩⟩⟩
/-! cells as data: an array that is -1 below m and 0 behind; an array of references; an object -/
abbrev DC : Type := (Bool × Nat × Nat) ⊕ List (Option Nat) ⊕ (Nat × List Value)
def m1 (m : Nat) (j : Nat) : Int32 := if j < m then -1 else 0
def tC (c : DC) : CA := match c with
  | .inl (false, n, m) => ai n (m1 m)
  | .inl (true, n, m) => ab n (m1 m)
  | .inr (.inl l) => aq l.length (fun j => (l[j]?).join)
  | .inr (.inr (ci, fs)) => ob ci fs
def gI (G : List DC) (i : Nat) : CA := match G[i]? with
  | some c => tC c
  | none => ai 0 (fun _ => 0)
def RI (B : BT) (G : List DC) (H : Heap) : Prop := va_P B.2.1 vwCl (wl B (gI G) G.length) H
def XI (Γ : GT) (a : Nat × Nat) (pc : Nat) (L : LT) (S : List Value) (G : List DC) : Prop := XX Γ (a.1, a.2, G.length) pc L S [] (gI G)
theorem ov_nil (f : Nat → CA) : ov [] f = f := by
  funext i
  rfl
theorem RI.rp {B : BT} {G : List DC} {H : Heap} (h : RI B G H) : Rp B [] (gI G) G.length H := ⟨List.nodup_nil, fun _ h => absurd h List.not_mem_nil, by rw [ov_nil]; exact h⟩
theorem RI.of {B : BT} {G : List DC} {H : Heap} (h : Rp B [] (gI G) G.length H) : RI B G H := by
  have := h.2.2
  rw [ov_nil] at this
  exact this
theorem gI_at {G : List DC} {i : Nat} {c : DC} (h : G[i]? = some c) : gI G i = tC c := by
  unfold gI
  rw [h]
theorem wl_congr {B : BT} {g g' : Nat → CA} {z : Nat} (h : ∀ i, i < z → g i = g' i) : wl B g z = wl B g' z := by
  unfold wl
  apply List.map_congr_left
  intro i hi
  rw [h i (List.mem_range.mp hi)]
theorem RI.get {B : BT} {G : List DC} {H : Heap} {i : Nat} {c : DC} (h : G[i]? = some c) : (wl B (gI G) G.length)[i]? = some (B.1 + i, cE B (tC c)) := by
  rw [wl_get (List.getElem?_eq_some_iff.mp h).1, gI_at h]
theorem RI.low {B : BT} {G : List DC} {H : Heap} (h : RI B G H) (hb : B.1 ≤ H.size) : B.1 + G.length ≤ H.size := by
  by_cases z : G.length = 0
  · omega
  · have := (h (G.length - 1) _ (wl_get (by omega))).lt
    dsimp only at this
    omega
theorem RI.push {B : BT} {G : List DC} {H H1 : Heap} {c : DC} (h : RI B G H) (o1 : ∀ q : Nat, q < H.size → H1[q]? = H[q]?) (hat : va_at B.2.1 vwCl (B.1 + G.length, cE B (tC c)) H1) : RI B (G ++ [c]) H1 := by
  intro k q hk
  have hl := (List.getElem?_eq_some_iff.mp hk).1
  simp only [wl, List.length_map, List.length_range, List.length_append, List.length_cons, List.length_nil] at hl
  rw [wl_get (by simp; omega)] at hk
  cases hk
  by_cases z : k < G.length
  · have e : gI (G ++ [c]) k = gI G k := by
      unfold gI
      rw [List.getElem?_append_left z]
    rw [e]
    have h1 := h k _ (wl_get z)
    exact h1.kept (o1 _ h1.lt)
  · have : k = G.length := by omega
    subst this
    rw [gI_at (c := c) (by rw [List.getElem?_append_right (Nat.le_refl _)]; simp)]
    exact hat
theorem RI.set {B : BT} {G : List DC} {H1 : Heap} {i : Nat} {c : DC} (hi : i < G.length) (h : va_P B.2.1 vwCl ((wl B (gI G) G.length).set i (B.1 + i, cE B (tC c))) H1) : RI B (G.set i c) H1 := by
  unfold RI
  rw [wl_set hi] at h
  rw [List.length_set, wl_congr (g' := va_up (gI G) i (tC c)) (fun j hj => ?_)]
  · exact h
  · unfold va_up
    by_cases z : j = i
    · subst z
      rw [if_pos rfl]
      exact gI_at (List.getElem?_set_self hi)
    · rw [if_neg z]
      unfold gI
      rw [List.getElem?_set_ne (Ne.symm z)]
/-- the heap has as many cells as were made -/
theorem W.hsz {p : Program} {l : Launch} {e : Env} {R : Room} {s : State} {m : MethodId} {args : Array Value} {below : List Frame} {meth : Method} {c : Code} {H : Heap} {locs : List Loc} {cells slots : Nat} {Q : State → Prop} {g : JFrame} (k : H.size ≤ s.heap.size + cells → W p l e R s m args below meth c H locs cells slots Q g) : W p l e R s m args below meth c H locs cells slots Q g := fun T hT X => by
  have h : T.heap.size ≤ s.heap.size + cells := X.same.2.2.1
  rw [hT] at h
  exact k h T hT X
def RG : GT → Nat → Nat → Prop
  | (_, _, _, R, _, _, _, _, _, _, _, _), c, k => c ≤ R.cells ∧ k ≤ R.slots
theorem dfl_cz {B : BT} (ci : Nat) : (dfl ci).map (cz B) = dfl ci := by
  unfold dfl
  split <;> rfl
theorem m1_0 : (fun j => Value.int (m1 0 j)) = (fun _ => Value.int 0) := by
  funext j
  unfold m1
  rw [if_neg (by omega)]
theorem m1_up (m : Nat) : upd (m1 m) m (-1) = m1 (m + 1) := by
  funext j
  unfold upd m1
  by_cases h : j = m
  · subst h; rw [if_pos rfl, if_pos (by omega)]
  · rw [if_neg h]
    by_cases h2 : j < m
    · rw [if_pos h2, if_pos (by omega)]
    · rw [if_neg h2, if_neg (by omega)]
section MAKE
variable {Γ : GT} {cc : ByteArray} {own : String} {d : Nat} {a : Nat × Nat} {pc : Nat} {L : List (Option Value)} {S : List Value} {G : List DC}
theorem i_new (K : GK Γ cc own d) {z0 : Nat} (hz : SZ Γ z0) (hl : G.length = z0 + a.1) {ix ci : Nat} (hci : ci < 9) (hcl : Cond.classLink own ix (ownS ci) ∈ gw) (hR : RG Γ (a.1 + 1) (a.2 + (dfl ci).length)) (hd : decode cc pc = .ok (.new ix, 3)) (kk : XI Γ (a.1 + 1, a.2 + (dfl ci).length) (pc + 3) L (.ref G.length :: S) (G ++ [.inr (.inr (ci, dfl ci))])) : XI Γ a pc L S G := by
  obtain ⟨p, l, e, R, s, m, args, below, meth, c, Z, B⟩ := Γ
  obtain ⟨hx, hb, ho, hts, hE, hB0, hd1, hd2⟩ := K
  obtain ⟨T, ty, c1, c2, c3, c4, c5, c6⟩ := ck_all ci hci
  intro H locs ls h1 h2 h3 h4 h5
  have h1 : RI B G H := RI.of h1
  have hz : s.heap.size = B.1 + z0 := hz
  refine W.hsz (fun hs => ?_)
  have hlo := h1.low (Nat.le_trans hB0 h2.1)
  have hs : H.size ≤ s.heap.size + a.1 := hs
  have hH : H.size = B.1 + G.length := by omega
  have hKn := hE.1.1 ci _ c1
  refine W.newcK hx hb ho (hts _ hcl) (hts _ c4) (hts _ c5) rfl hd hR.1 hR.2 hKn.2.1 hH (fun H1 kC hkC e1 z1 o1 => ?_)
  have hp : RI B (G ++ [.inr (.inr (ci, dfl ci))]) H1 := h1.push (fun q hq => o1 q (by omega)) ⟨_, c1, (u_born ty hts c3 hKn hkC e1 c2).to (fun j hj => by
    rw [c6 j hj]
    rw [dfl_cz])⟩
  exact kk H1 locs ls hp.rp ⟨Nat.le_trans h2.1 (by omega), fun x q1 q2 => (o1 x (by have := h2.1; omega)).trans (h2.2.1 x q1 q2), h2.2.2⟩ h3 hR.1 hR.2
theorem i_newi (K : GK Γ cc own d) {z0 : Nat} (hz : SZ Γ z0) (hl : G.length = z0 + a.1) {x : Int32} (h0 : 0 ≤ x) (hn : tN x ≤ 100000) (hR : RG Γ (a.1 + 1) (a.2 + tN x)) (hd : decode cc pc = .ok (.newarray .int, 2)) (kk : XI Γ (a.1 + 1, a.2 + tN x) (pc + 2) L (.ref G.length :: S) (G ++ [.inl (false, tN x, 0)])) : XI Γ a pc L (.int x :: S) G := by
  obtain ⟨p, l, e, R, s, m, args, below, meth, c, Z, B⟩ := Γ
  obtain ⟨hx, hb, ho, hts, hE, hB0, hd1, hd2⟩ := K
  intro H locs ls h1 h2 h3 h4 h5
  have h1 : RI B G H := RI.of h1
  have hz : s.heap.size = B.1 + z0 := hz
  refine W.hsz (fun hs => ?_)
  have hlo := h1.low (Nat.le_trans hB0 h2.1)
  have hs : H.size ≤ s.heap.size + a.1 := hs
  have hH : H.size = B.1 + G.length := by omega
  refine va_newaK (atype := .int) (N := tN x) hx hb (hts _ ac_int) rfl hd rfl (Int32.not_lt.mpr h0) rfl (by show tN x * 4 ≤ _; omega) hR.1 hR.2 hH (fun H1 cA e1 z1 o1 hAr hNm => ?_)
  have ec : cA = B.2.2.2 .int := Option.some.inj (hNm.symm.trans (hE.1.2 0 _ rfl).2)
  subst ec
  have hp : RI B (G ++ [.inl (false, tN x, 0)]) H1 := h1.push (fun q hq => o1 q (by omega)) (by
    show H1[B.1 + G.length]? = some (vp_cell _ (_, .inl _))
    rw [vp_cell_i, m1_0]
    exact e1)
  exact kk H1 locs ls hp.rp ⟨Nat.le_trans h2.1 (by omega), fun x q1 q2 => (o1 x (by have := h2.1; omega)).trans (h2.2.1 x q1 q2), h2.2.2⟩ h3 hR.1 hR.2
theorem i_newz (K : GK Γ cc own d) {z0 : Nat} (hz : SZ Γ z0) (hl : G.length = z0 + a.1) {x : Int32} (h0 : 0 ≤ x) (hn : tN x ≤ 100000) (hR : RG Γ (a.1 + 1) (a.2 + tN x)) (hd : decode cc pc = .ok (.newarray .boolean, 2)) (kk : XI Γ (a.1 + 1, a.2 + tN x) (pc + 2) L (.ref G.length :: S) (G ++ [.inl (true, tN x, 0)])) : XI Γ a pc L (.int x :: S) G := by
  obtain ⟨p, l, e, R, s, m, args, below, meth, c, Z, B⟩ := Γ
  obtain ⟨hx, hb, ho, hts, hE, hB0, hd1, hd2⟩ := K
  intro H locs ls h1 h2 h3 h4 h5
  have h1 : RI B G H := RI.of h1
  have hz : s.heap.size = B.1 + z0 := hz
  refine W.hsz (fun hs => ?_)
  have hlo := h1.low (Nat.le_trans hB0 h2.1)
  have hs : H.size ≤ s.heap.size + a.1 := hs
  have hH : H.size = B.1 + G.length := by omega
  refine va_newaK (atype := .boolean) (N := tN x) hx hb (hts _ ac_bool) rfl hd rfl (Int32.not_lt.mpr h0) rfl (by show tN x * 1 ≤ _; omega) hR.1 hR.2 hH (fun H1 cA e1 z1 o1 hAr hNm => ?_)
  have ec : cA = B.2.2.2 .boolean := Option.some.inj (hNm.symm.trans (hE.1.2 1 _ rfl).2)
  subst ec
  have hp : RI B (G ++ [.inl (true, tN x, 0)]) H1 := h1.push (fun q hq => o1 q (by omega)) (by
    show H1[B.1 + G.length]? = some (vp_cell _ (_, .inl _))
    rw [vp_cell_i, m1_0]
    exact e1)
  exact kk H1 locs ls hp.rp ⟨Nat.le_trans h2.1 (by omega), fun x q1 q2 => (o1 x (by have := h2.1; omega)).trans (h2.2.1 x q1 q2), h2.2.2⟩ h3 hR.1 hR.2
theorem i_newq (K : GK Γ cc own d) {z0 : Nat} (hz : SZ Γ z0) (hl : G.length = z0 + a.1) {ix : Nat} {x : Int32} (hcl : Cond.classLink own ix RX2 ∈ gw) (h0 : 0 ≤ x) (hn : tN x ≤ 100000) (hR : RG Γ (a.1 + 1) (a.2 + tN x)) (hd : decode cc pc = .ok (.anewarray ix, 3)) (kk : XI Γ (a.1 + 1, a.2 + tN x) (pc + 3) L (.ref G.length :: S) (G ++ [.inr (.inl (List.replicate (tN x) none))])) : XI Γ a pc L (.int x :: S) G := by
  obtain ⟨p, l, e, R, s, m, args, below, meth, c, Z, B⟩ := Γ
  obtain ⟨hx, hb, ho, hts, hE, hB0, hd1, hd2⟩ := K
  intro H locs ls h1 h2 h3 h4 h5
  have h1 : RI B G H := RI.of h1
  have hz : s.heap.size = B.1 + z0 := hz
  refine W.hsz (fun hs => ?_)
  have hlo := h1.low (Nat.le_trans hB0 h2.1)
  have hs : H.size ≤ s.heap.size + a.1 := hs
  have hH : H.size = B.1 + G.length := by omega
  refine W.anew hx hb ho (hts _ hcl) (va_AO.use hE.2.2.1) rfl hd rfl (Int32.not_lt.mpr h0) (by show tN x * 4 ≤ _; omega) hR.1 hR.2 (fun cA kA comp f1 f2 f3 f4 => ?_)
  have ec : cA = B.2.2.2 (.object RX2) := by
    obtain ⟨kB, cB, -, -, -, g4⟩ := (hE.1.2 2 _ rfl).2
    exact Option.some.inj (f1.symm.trans g4)
  subst ec
  generalize hH1 : H.push ({ cls := B.2.2.2 (.object RX2), slots := Array.replicate x.toNatClampNeg .null, vm := .none } : Cell) = H1
  have z1 : H1.size = H.size + 1 := by rw [← hH1, Array.size_push]
  have e1 : H1[H.size]? = some (arrV (B.2.2.2 (.object RX2)) x.toNatClampNeg (fun _ => .null)) := by rw [← hH1, Array.getElem?_push_size, ← arrV_new]
  have o1 : ∀ q : Nat, q < H.size → H1[q]? = H[q]? := fun q hq => by rw [← hH1, Array.getElem?_push, if_neg (Nat.ne_of_lt hq)]
  have hp : RI B (G ++ [.inr (.inl (List.replicate (tN x) none))]) H1 := h1.push (fun q hq => o1 q hq) (by
    show H1[B.1 + G.length]? = some (vp_cell _ (_, .inr (.inr (.inr (.inr _)))))
    rw [vp_cell_q, ← hH, e1, List.length_replicate]
    congr 2
    funext j
    by_cases z : j < tN x
    · simp [z, va_rf]
    · simp [z, va_rf])
  rw [hH]
  exact kk H1 locs ls hp.rp ⟨Nat.le_trans h2.1 (by omega), fun x q1 q2 => (o1 x (by have := h2.1; omega)).trans (h2.2.1 x q1 q2), h2.2.2⟩ h3 hR.1 hR.2
theorem i_put (K : GK Γ cc own d) (hnm : NM Γ "<init>") {ix i j ci k : Nat} {fs : List Value} (hf : FG own ix ci k) (hfi : FR own ci k) (hw : G[i]? = some (.inr (.inr (ci, fs)))) (hv : k < fs.length) (hd : decode cc pc = .ok (.putfield ix, 3)) (kk : XI Γ a (pc + 3) L S (G.set i (.inr (.inr (ci, fs.set k (.ref j)))))) : XI Γ a pc L (.ref j :: .ref i :: S) G := by
  obtain ⟨p, l, e, R, s, m, args, below, meth, c, Z, B⟩ := Γ
  obtain ⟨hx, hb, ho, hts, hE, hB0, hd1, hd2⟩ := K
  intro H locs ls h1 h2 h3 h4 h5
  have h1 : RI B G H := RI.of h1
  obtain ⟨C, T, N, c1, c2, c3, c4, c5⟩ := hf
  obtain ⟨⟨C', T', N', ty, e1, e2, e3⟩, C'', T'', N'', ty', g1, g2, g3, g4, g5, g6⟩ := hfi
  cases c1.symm.trans e1
  cases c1.symm.trans g1
  refine va_putF (ty := ty') (v := .ref (B.1 + j)) hx hb hts c4 ty e2 e3 ho hE.1 h1 wl_D h2 i (RI.get (H := H) hw) c1 k c2 (hts _ c3) (fun x h => by rw [c5] at h; exact h) g2 hnm (c5.trans g6) g3 (g4 _) (g5 _) (by rw [List.length_map]; exact hv) hd (fun H1 locs1 hP hD hS => ?_)
  have e : (fs.set k (.ref j)).map (cz B) = (fs.map (cz B)).set k (.ref (B.1 + j)) := by rw [List.map_set]; rfl
  have hp : RI B (G.set i (.inr (.inr (ci, fs.set k (.ref j))))) H1 := RI.set (List.getElem?_eq_some_iff.mp hw).1 (by
    show va_P _ _ (List.set _ i (B.1 + i, .inr (ci, (fs.set k (.ref j)).map (cz B)))) _
    rw [e]
    exact hP)
  exact kk H1 locs1 ls hp.rp hS h3 h4 h5
theorem i_get (K : GK Γ cc own d) {ix i r ci k : Nat} {fs : List Value} (hf : FG own ix ci k) (hw : G[i]? = some (.inr (.inr (ci, fs)))) (hv : fs[k]? = some (.ref r)) (hd : decode cc pc = .ok (.getfield ix, 3)) (kk : XI Γ a (pc + 3) L (.ref r :: S) G) : XI Γ a pc L (.ref i :: S) G := by
  obtain ⟨p, l, e, R, s, m, args, below, meth, c, Z, B⟩ := Γ
  obtain ⟨hx, hb, ho, hts, hE, hB0, hd1, hd2⟩ := K
  intro H locs ls h1 h2 h3 h4 h5
  have h1' : RI B G H := RI.of h1
  obtain ⟨C, T, N, c1, c2, c3, c4, c5⟩ := hf
  exact va_get hx hb hts c4 ho hE.1 h1' i (RI.get (H := H) hw) c1 k c2 (hts _ c3) (fun x h => by rw [c5] at h; exact h) (by rw [List.getElem?_map, hv]; rfl) hd (kk H locs ls h1 h2 h3 h4 h5)
theorem i_iast (K : GK Γ cc own d) {x : Int32} {i n m : Nat} (hw : G[i]? = some (.inl (false, n, m))) (hj : x = nI m) (hlt : m < n) (hn : n < 2147483648) (hd : decode cc pc = .ok (.iastore, 1)) (kk : XI Γ a (pc + 1) L S (G.set i (.inl (false, n, m + 1)))) : XI Γ a pc L (.int (-1) :: .int x :: .ref i :: S) G := by
  obtain ⟨p, l, e, R, s, mi, args, below, meth, c, Z, B⟩ := Γ
  obtain ⟨hx, hb, ho, hts, hE, hB0, hd1, hd2⟩ := K
  intro H locs ls h1 h2 h3 h4 h5
  have h1 : RI B G H := RI.of h1
  obtain ⟨v1, v2⟩ := inN hj hlt hn
  refine va_iast hx hb hE.1 h1 wl_D h2 i 0 (RI.get (H := H) hw) rfl v1 hd (fun H1 locs1 hP hD hS => ?_)
  rw [v2, m1_up] at hP
  have hp : RI B (G.set i (.inl (false, n, m + 1))) H1 := RI.set (List.getElem?_eq_some_iff.mp hw).1 hP
  exact kk H1 locs1 ls hp.rp hS h3 h4 h5
theorem i_aast (K : GK Γ cc own d) {x : Int32} {i r : Nat} {l : List (Option Nat)} {vs : List Value} (hw : G[i]? = some (.inr (.inl l))) (hr : G[r]? = some (.inr (.inr (2, vs)))) (h0 : 0 ≤ x) (hlt : tN x < l.length) (hd : decode cc pc = .ok (.aastore, 1)) (kk : XI Γ a (pc + 1) L S (G.set i (.inr (.inl (l.set (tN x) (some r)))))) : XI Γ a pc L (.ref r :: .int x :: .ref i :: S) G := by
  obtain ⟨p, l', e, R, s, mi, args, below, meth, c, Z, B⟩ := Γ
  obtain ⟨hx, hb, ho, hts, hE, hB0, hd1, hd2⟩ := K
  intro H locs ls h1 h2 h3 h4 h5
  have h1 : RI B G H := RI.of h1
  have hin : vp_in x l.length := fun z => by
    rcases z with z | z
    · exact Int32.not_lt.mpr h0 z
    · exact absurd hlt (Nat.not_lt.mpr z)
  refine va_astq (r := (RX2, TX2, 14)) hx hb hE.1 h1 wl_D h2 i 2 r 2 (RI.get (H := H) hw) rfl (RI.get (H := H) hr) rfl hin hd (fun H1 locs1 hP hD hS => ?_)
  have hp : RI B (G.set i (.inr (.inl (l.set (tN x) (some r))))) H1 := RI.set (List.getElem?_eq_some_iff.mp hw).1 (by
    show va_P _ _ (List.set _ i (B.1 + i, .inl (_, (l.set (tN x) (some r)).length, .inr (.inr (.inr (.inr (fun j => (((l.set (tN x) (some r))[j]?).join).map (fun i => B.1 + i)))))))) _
    rw [List.length_set]
    have e : (fun j => (((l.set (tN x) (some r))[j]?).join).map (fun i => B.1 + i)) = va_up (fun j => ((l[j]?).join).map (fun i => B.1 + i)) x.toNatClampNeg (some (B.1 + r)) := by
      funext j
      unfold va_up
      by_cases z : j = tN x
      · rw [if_pos (show j = x.toNatClampNeg from z), z, List.getElem?_set_self hlt]; rfl
      · rw [if_neg (show ¬ j = x.toNatClampNeg from z), List.getElem?_set_ne (Ne.symm z)]
    rw [e]
    exact hP)
  exact kk H1 locs1 ls hp.rp hS h3 h4 h5
end MAKE
