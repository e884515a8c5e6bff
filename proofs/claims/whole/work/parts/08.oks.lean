theorem cok0 : cOK R_D T_D 9 ty_D := ⟨by decide +kernel, by decide +kernel, by decide +kernel⟩
theorem cok1 : cOK R_F T_F 5 ty_F := ⟨by decide +kernel, by decide +kernel, by decide +kernel⟩
theorem cok2 : cOK R_C T_C 11 ty_C := ⟨by decide +kernel, by decide +kernel, by decide +kernel⟩
theorem cok3 : cOK R_W T_W 3 ty_W := ⟨by decide +kernel, by decide +kernel, by decide +kernel⟩
theorem cok4 : cOK R_S T_S 6 ty_S := ⟨by decide +kernel, by decide +kernel, by decide +kernel⟩
theorem cok5 : cOK R_N T_N 4 ty_N := ⟨by decide +kernel, by decide +kernel, by decide +kernel⟩
theorem cok6 : cOK R_P T_P 11 ty_P := ⟨by decide +kernel, by decide +kernel, by decide +kernel⟩
theorem cok7 : cOK R_M T_M 21 ty_M := ⟨by decide +kernel, by decide +kernel, by decide +kernel⟩
theorem ok_D_init : mOK m_D_init := ⟨w_56, w_42, ⟨by decide, by decide⟩, by decide⟩
theorem pn_D_init : (parseMethodDescriptor (mY m_D_init).desc).map (fun d => d.parameters.length) = some 0 := by decide +kernel
theorem ok_D_field : mOK m_D_field := ⟨w_357, w_42, ⟨by decide, by decide⟩, by decide⟩
theorem pn_D_field : (parseMethodDescriptor (mY m_D_field).desc).map (fun d => d.parameters.length) = some 1 := by decide +kernel
theorem ok_D_times : mOK m_D_times := ⟨w_364, w_42, ⟨by decide, by decide⟩, by decide⟩
theorem pn_D_times : (parseMethodDescriptor (mY m_D_times).desc).map (fun d => d.parameters.length) = some 2 := by decide +kernel
theorem ok_D_over : mOK m_D_over := ⟨w_373, w_42, ⟨by decide, by decide⟩, by decide⟩
theorem pn_D_over : (parseMethodDescriptor (mY m_D_over).desc).map (fun d => d.parameters.length) = some 2 := by decide +kernel
theorem ok_D_log : mOK m_D_log := ⟨w_378, w_42, ⟨by decide, by decide⟩, by decide⟩
theorem pn_D_log : (parseMethodDescriptor (mY m_D_log).desc).map (fun d => d.parameters.length) = some 1 := by decide +kernel
theorem ok_D_code : mOK m_D_code := ⟨w_382, w_42, ⟨by decide, by decide⟩, by decide⟩
theorem pn_D_code : (parseMethodDescriptor (mY m_D_code).desc).map (fun d => d.parameters.length) = some 3 := by decide +kernel
theorem ok_D_tell : mOK m_D_tell := ⟨w_386, w_42, ⟨by decide, by decide⟩, by decide⟩
theorem pn_D_tell : (parseMethodDescriptor (mY m_D_tell).desc).map (fun d => d.parameters.length) = some 2 := by decide +kernel
theorem ok_D_encode : mOK m_D_encode := ⟨w_394, w_42, ⟨by decide, by decide⟩, by decide⟩
theorem pn_D_encode : (parseMethodDescriptor (mY m_D_encode).desc).map (fun d => d.parameters.length) = some 1 := by decide +kernel
theorem ok_D_receive : mOK m_D_receive := ⟨w_406, w_42, ⟨by decide, by decide⟩, by decide⟩
theorem pn_D_receive : (parseMethodDescriptor (mY m_D_receive).desc).map (fun d => d.parameters.length) = some 2 := by decide +kernel
theorem ok_D_erase : mOK m_D_erase := ⟨w_414, w_42, ⟨by decide, by decide⟩, by decide⟩
theorem pn_D_erase : (parseMethodDescriptor (mY m_D_erase).desc).map (fun d => d.parameters.length) = some 1 := by decide +kernel
theorem ok_D_word : mOK m_D_word := ⟨w_422, w_42, ⟨by decide, by decide⟩, by decide⟩
theorem pn_D_word : (parseMethodDescriptor (mY m_D_word).desc).map (fun d => d.parameters.length) = some 1 := by decide +kernel
theorem ok_D_syndrome : mOK m_D_syndrome := ⟨w_426, w_42, ⟨by decide, by decide⟩, by decide⟩
theorem pn_D_syndrome : (parseMethodDescriptor (mY m_D_syndrome).desc).map (fun d => d.parameters.length) = some 1 := by decide +kernel
theorem ok_D_decode : mOK m_D_decode := ⟨w_431, w_42, ⟨by decide, by decide⟩, by decide⟩
theorem pn_D_decode : (parseMethodDescriptor (mY m_D_decode).desc).map (fun d => d.parameters.length) = some 1 := by decide +kernel
theorem ok_D_decoded : mOK m_D_decoded := ⟨w_466, w_42, ⟨by decide, by decide⟩, by decide⟩
theorem pn_D_decoded : (parseMethodDescriptor (mY m_D_decoded).desc).map (fun d => d.parameters.length) = some 1 := by decide +kernel
theorem ok_D_sent : mOK m_D_sent := ⟨w_470, w_42, ⟨by decide, by decide⟩, by decide⟩
theorem pn_D_sent : (parseMethodDescriptor (mY m_D_sent).desc).map (fun d => d.parameters.length) = some 1 := by decide +kernel
theorem ok_D_locator : mOK m_D_locator := ⟨w_479, w_42, ⟨by decide, by decide⟩, by decide⟩
theorem pn_D_locator : (parseMethodDescriptor (mY m_D_locator).desc).map (fun d => d.parameters.length) = some 1 := by decide +kernel
theorem ok_D_list : mOK m_D_list := ⟨w_483, w_42, ⟨by decide, by decide⟩, by decide⟩
theorem pn_D_list : (parseMethodDescriptor (mY m_D_list).desc).map (fun d => d.parameters.length) = some 1 := by decide +kernel
theorem ok_D_listed : mOK m_D_listed := ⟨w_501, w_42, ⟨by decide, by decide⟩, by decide⟩
theorem pn_D_listed : (parseMethodDescriptor (mY m_D_listed).desc).map (fun d => d.parameters.length) = some 2 := by decide +kernel
theorem ok_D_distance : mOK m_D_distance := ⟨w_509, w_42, ⟨by decide, by decide⟩, by decide⟩
theorem pn_D_distance : (parseMethodDescriptor (mY m_D_distance).desc).map (fun d => d.parameters.length) = some 1 := by decide +kernel
theorem ok_D_radius : mOK m_D_radius := ⟨w_513, w_42, ⟨by decide, by decide⟩, by decide⟩
theorem pn_D_radius : (parseMethodDescriptor (mY m_D_radius).desc).map (fun d => d.parameters.length) = some 1 := by decide +kernel
theorem ok_D_weight : mOK m_D_weight := ⟨w_517, w_42, ⟨by decide, by decide⟩, by decide⟩
theorem pn_D_weight : (parseMethodDescriptor (mY m_D_weight).desc).map (fun d => d.parameters.length) = some 1 := by decide +kernel
theorem ok_D_beginField : mOK m_D_beginField := ⟨w_264, w_42, ⟨by decide, by decide⟩, by decide⟩
theorem pn_D_beginField : (parseMethodDescriptor (mY m_D_beginField).desc).map (fun d => d.parameters.length) = some 1 := by decide +kernel
theorem ok_D_beginCode : mOK m_D_beginCode := ⟨w_281, w_42, ⟨by decide, by decide⟩, by decide⟩
theorem pn_D_beginCode : (parseMethodDescriptor (mY m_D_beginCode).desc).map (fun d => d.parameters.length) = some 3 := by decide +kernel
theorem ok_D_isPlace : mOK m_D_isPlace := ⟨w_410, w_42, ⟨by decide, by decide⟩, by decide⟩
theorem pn_D_isPlace : (parseMethodDescriptor (mY m_D_isPlace).desc).map (fun d => d.parameters.length) = some 1 := by decide +kernel
theorem ok_D_isInMessage : mOK m_D_isInMessage := ⟨w_390, w_42, ⟨by decide, by decide⟩, by decide⟩
theorem pn_D_isInMessage : (parseMethodDescriptor (mY m_D_isInMessage).desc).map (fun d => d.parameters.length) = some 1 := by decide +kernel
theorem ok_D_isTimes : mOK m_D_isTimes := ⟨w_486, w_42, ⟨by decide, by decide⟩, by decide⟩
theorem pn_D_isTimes : (parseMethodDescriptor (mY m_D_isTimes).desc).map (fun d => d.parameters.length) = some 1 := by decide +kernel
theorem ok_D_isErasedTooMuch : mOK m_D_isErasedTooMuch := ⟨w_435, w_42, ⟨by decide, by decide⟩, by decide⟩
theorem pn_D_isErasedTooMuch : (parseMethodDescriptor (mY m_D_isErasedTooMuch).desc).map (fun d => d.parameters.length) = some 0 := by decide +kernel
theorem ok_D_half : mOK m_D_half := ⟨w_439, w_42, ⟨by decide, by decide⟩, by decide⟩
theorem pn_D_half : (parseMethodDescriptor (mY m_D_half).desc).map (fun d => d.parameters.length) = some 0 := by decide +kernel
theorem ok_D_boundFor : mOK m_D_boundFor := ⟨w_494, w_42, ⟨by decide, by decide⟩, by decide⟩
theorem pn_D_boundFor : (parseMethodDescriptor (mY m_D_boundFor).desc).map (fun d => d.parameters.length) = some 1 := by decide +kernel
theorem ok_D_radiusFor : mOK m_D_radiusFor := ⟨w_490, w_42, ⟨by decide, by decide⟩, by decide⟩
theorem pn_D_radiusFor : (parseMethodDescriptor (mY m_D_radiusFor).desc).map (fun d => d.parameters.length) = some 1 := by decide +kernel
theorem ok_D_locateWrongPlaces : mOK m_D_locateWrongPlaces := ⟨w_462, w_42, ⟨by decide, by decide⟩, by decide⟩
theorem pn_D_locateWrongPlaces : (parseMethodDescriptor (mY m_D_locateWrongPlaces).desc).map (fun d => d.parameters.length) = some 0 := by decide +kernel
theorem ok_M_init : mOK m_M_init := ⟨w_551, w_51, ⟨by decide, by decide⟩, by decide⟩
theorem pn_M_init : (parseMethodDescriptor (mY m_M_init).desc).map (fun d => d.parameters.length) = some 0 := by decide +kernel
theorem ok_M_rest : mOK m_M_rest := ⟨w_559, w_51, ⟨by decide, by decide⟩, by decide⟩
theorem pn_M_rest : (parseMethodDescriptor (mY m_M_rest).desc).map (fun d => d.parameters.length) = some 4 := by decide +kernel
theorem ok_M_layField : mOK m_M_layField := ⟨w_556, w_51, ⟨by decide, by decide⟩, by decide⟩
theorem pn_M_layField : (parseMethodDescriptor (mY m_M_layField).desc).map (fun d => d.parameters.length) = some 2 := by decide +kernel
theorem ok_M_isPrimitive : mOK m_M_isPrimitive := ⟨w_634, w_51, ⟨by decide, by decide⟩, by decide⟩
theorem pn_M_isPrimitive : (parseMethodDescriptor (mY m_M_isPrimitive).desc).map (fun d => d.parameters.length) = some 2 := by decide +kernel
theorem ok_M_isElement : mOK m_M_isElement := ⟨w_642, w_51, ⟨by decide, by decide⟩, by decide⟩
theorem pn_M_isElement : (parseMethodDescriptor (mY m_M_isElement).desc).map (fun d => d.parameters.length) = some 1 := by decide +kernel
theorem ok_M_field : mOK m_M_field := ⟨w_631, w_51, ⟨by decide, by decide⟩, by decide⟩
theorem pn_M_field : (parseMethodDescriptor (mY m_M_field).desc).map (fun d => d.parameters.length) = some 1 := by decide +kernel
theorem ok_M_times : mOK m_M_times := ⟨w_638, w_51, ⟨by decide, by decide⟩, by decide⟩
theorem pn_M_times : (parseMethodDescriptor (mY m_M_times).desc).map (fun d => d.parameters.length) = some 2 := by decide +kernel
theorem ok_M_quotient : mOK m_M_quotient := ⟨w_650, w_51, ⟨by decide, by decide⟩, by decide⟩
theorem pn_M_quotient : (parseMethodDescriptor (mY m_M_quotient).desc).map (fun d => d.parameters.length) = some 2 := by decide +kernel
theorem ok_M_over : mOK m_M_over := ⟨w_646, w_51, ⟨by decide, by decide⟩, by decide⟩
theorem pn_M_over : (parseMethodDescriptor (mY m_M_over).desc).map (fun d => d.parameters.length) = some 2 := by decide +kernel
theorem ok_M_log : mOK m_M_log := ⟨w_654, w_51, ⟨by decide, by decide⟩, by decide⟩
theorem pn_M_log : (parseMethodDescriptor (mY m_M_log).desc).map (fun d => d.parameters.length) = some 1 := by decide +kernel
theorem ok_M_power : mOK m_M_power := ⟨w_714, w_51, ⟨by decide, by decide⟩, by decide⟩
theorem pn_M_power : (parseMethodDescriptor (mY m_M_power).desc).map (fun d => d.parameters.length) = some 2 := by decide +kernel
theorem ok_M_layCode : mOK m_M_layCode := ⟨w_563, w_51, ⟨by decide, by decide⟩, by decide⟩
theorem pn_M_layCode : (parseMethodDescriptor (mY m_M_layCode).desc).map (fun d => d.parameters.length) = some 3 := by decide +kernel
theorem ok_M_code : mOK m_M_code := ⟨w_658, w_51, ⟨by decide, by decide⟩, by decide⟩
theorem pn_M_code : (parseMethodDescriptor (mY m_M_code).desc).map (fun d => d.parameters.length) = some 3 := by decide +kernel
theorem ok_M_tell : mOK m_M_tell := ⟨w_662, w_51, ⟨by decide, by decide⟩, by decide⟩
theorem pn_M_tell : (parseMethodDescriptor (mY m_M_tell).desc).map (fun d => d.parameters.length) = some 2 := by decide +kernel
theorem ok_M_told : mOK m_M_told := ⟨w_682, w_51, ⟨by decide, by decide⟩, by decide⟩
theorem pn_M_told : (parseMethodDescriptor (mY m_M_told).desc).map (fun d => d.parameters.length) = some 2 := by decide +kernel
theorem ok_M_messages : mOK m_M_messages := ⟨w_674, w_51, ⟨by decide, by decide⟩, by decide⟩
theorem pn_M_messages : (parseMethodDescriptor (mY m_M_messages).desc).map (fun d => d.parameters.length) = some 0 := by decide +kernel
theorem ok_M_element : mOK m_M_element := ⟨w_678, w_51, ⟨by decide, by decide⟩, by decide⟩
theorem pn_M_element : (parseMethodDescriptor (mY m_M_element).desc).map (fun d => d.parameters.length) = some 2 := by decide +kernel
theorem ok_M_makeRow : mOK m_M_makeRow := ⟨w_686, w_51, ⟨by decide, by decide⟩, by decide⟩
theorem pn_M_makeRow : (parseMethodDescriptor (mY m_M_makeRow).desc).map (fun d => d.parameters.length) = some 1 := by decide +kernel
theorem ok_M_chosen : mOK m_M_chosen := ⟨w_670, w_51, ⟨by decide, by decide⟩, by decide⟩
theorem pn_M_chosen : (parseMethodDescriptor (mY m_M_chosen).desc).map (fun d => d.parameters.length) = some 1 := by decide +kernel
theorem ok_M_encode : mOK m_M_encode := ⟨w_666, w_51, ⟨by decide, by decide⟩, by decide⟩
theorem pn_M_encode : (parseMethodDescriptor (mY m_M_encode).desc).map (fun d => d.parameters.length) = some 1 := by decide +kernel
theorem ok_M_isPlace : mOK m_M_isPlace := ⟨w_694, w_51, ⟨by decide, by decide⟩, by decide⟩
theorem pn_M_isPlace : (parseMethodDescriptor (mY m_M_isPlace).desc).map (fun d => d.parameters.length) = some 1 := by decide +kernel
theorem ok_M_receive : mOK m_M_receive := ⟨w_690, w_51, ⟨by decide, by decide⟩, by decide⟩
theorem pn_M_receive : (parseMethodDescriptor (mY m_M_receive).desc).map (fun d => d.parameters.length) = some 2 := by decide +kernel
theorem ok_M_erase : mOK m_M_erase := ⟨w_698, w_51, ⟨by decide, by decide⟩, by decide⟩
theorem pn_M_erase : (parseMethodDescriptor (mY m_M_erase).desc).map (fun d => d.parameters.length) = some 1 := by decide +kernel
theorem ok_M_word : mOK m_M_word := ⟨w_702, w_51, ⟨by decide, by decide⟩, by decide⟩
theorem pn_M_word : (parseMethodDescriptor (mY m_M_word).desc).map (fun d => d.parameters.length) = some 1 := by decide +kernel
theorem ok_M_apart : mOK m_M_apart := ⟨w_710, w_51, ⟨by decide, by decide⟩, by decide⟩
theorem pn_M_apart : (parseMethodDescriptor (mY m_M_apart).desc).map (fun d => d.parameters.length) = some 1 := by decide +kernel
theorem ok_M_syndrome : mOK m_M_syndrome := ⟨w_706, w_51, ⟨by decide, by decide⟩, by decide⟩
theorem pn_M_syndrome : (parseMethodDescriptor (mY m_M_syndrome).desc).map (fun d => d.parameters.length) = some 1 := by decide +kernel
theorem ok_M_kept : mOK m_M_kept := ⟨w_722, w_51, ⟨by decide, by decide⟩, by decide⟩
theorem pn_M_kept : (parseMethodDescriptor (mY m_M_kept).desc).map (fun d => d.parameters.length) = some 0 := by decide +kernel
theorem ok_M_distanceOf : mOK m_M_distanceOf := ⟨w_726, w_51, ⟨by decide, by decide⟩, by decide⟩
theorem pn_M_distanceOf : (parseMethodDescriptor (mY m_M_distanceOf).desc).map (fun d => d.parameters.length) = some 2 := by decide +kernel
theorem ok_M_decode : mOK m_M_decode := ⟨w_718, w_51, ⟨by decide, by decide⟩, by decide⟩
theorem pn_M_decode : (parseMethodDescriptor (mY m_M_decode).desc).map (fun d => d.parameters.length) = some 1 := by decide +kernel
theorem ok_M_decoded : mOK m_M_decoded := ⟨w_730, w_51, ⟨by decide, by decide⟩, by decide⟩
theorem pn_M_decoded : (parseMethodDescriptor (mY m_M_decoded).desc).map (fun d => d.parameters.length) = some 1 := by decide +kernel
theorem ok_M_sent : mOK m_M_sent := ⟨w_734, w_51, ⟨by decide, by decide⟩, by decide⟩
theorem pn_M_sent : (parseMethodDescriptor (mY m_M_sent).desc).map (fun d => d.parameters.length) = some 1 := by decide +kernel
theorem ok_M_locator : mOK m_M_locator := ⟨w_738, w_51, ⟨by decide, by decide⟩, by decide⟩
theorem pn_M_locator : (parseMethodDescriptor (mY m_M_locator).desc).map (fun d => d.parameters.length) = some 1 := by decide +kernel
theorem ok_M_pairs : mOK m_M_pairs := ⟨w_754, w_51, ⟨by decide, by decide⟩, by decide⟩
theorem pn_M_pairs : (parseMethodDescriptor (mY m_M_pairs).desc).map (fun d => d.parameters.length) = some 1 := by decide +kernel
theorem ok_M_boundFor : mOK m_M_boundFor := ⟨w_750, w_51, ⟨by decide, by decide⟩, by decide⟩
theorem pn_M_boundFor : (parseMethodDescriptor (mY m_M_boundFor).desc).map (fun d => d.parameters.length) = some 2 := by decide +kernel
theorem ok_M_radiusFor : mOK m_M_radiusFor := ⟨w_746, w_51, ⟨by decide, by decide⟩, by decide⟩
theorem pn_M_radiusFor : (parseMethodDescriptor (mY m_M_radiusFor).desc).map (fun d => d.parameters.length) = some 2 := by decide +kernel
theorem ok_M_isBefore : mOK m_M_isBefore := ⟨w_758, w_51, ⟨by decide, by decide⟩, by decide⟩
theorem pn_M_isBefore : (parseMethodDescriptor (mY m_M_isBefore).desc).map (fun d => d.parameters.length) = some 2 := by decide +kernel
theorem ok_M_list : mOK m_M_list := ⟨w_742, w_51, ⟨by decide, by decide⟩, by decide⟩
theorem pn_M_list : (parseMethodDescriptor (mY m_M_list).desc).map (fun d => d.parameters.length) = some 1 := by decide +kernel
theorem ok_M_listed : mOK m_M_listed := ⟨w_762, w_51, ⟨by decide, by decide⟩, by decide⟩
theorem pn_M_listed : (parseMethodDescriptor (mY m_M_listed).desc).map (fun d => d.parameters.length) = some 2 := by decide +kernel
theorem ok_M_distance : mOK m_M_distance := ⟨w_766, w_51, ⟨by decide, by decide⟩, by decide⟩
theorem pn_M_distance : (parseMethodDescriptor (mY m_M_distance).desc).map (fun d => d.parameters.length) = some 1 := by decide +kernel
theorem ok_M_radius : mOK m_M_radius := ⟨w_770, w_51, ⟨by decide, by decide⟩, by decide⟩
theorem pn_M_radius : (parseMethodDescriptor (mY m_M_radius).desc).map (fun d => d.parameters.length) = some 1 := by decide +kernel
theorem ok_M_condition : mOK m_M_condition := ⟨w_782, w_51, ⟨by decide, by decide⟩, by decide⟩
theorem pn_M_condition : (parseMethodDescriptor (mY m_M_condition).desc).map (fun d => d.parameters.length) = some 5 := by decide +kernel
theorem ok_M_layTerm : mOK m_M_layTerm := ⟨w_778, w_51, ⟨by decide, by decide⟩, by decide⟩
theorem pn_M_layTerm : (parseMethodDescriptor (mY m_M_layTerm).desc).map (fun d => d.parameters.length) = some 3 := by decide +kernel
theorem ok_M_isNew : mOK m_M_isNew := ⟨w_786, w_51, ⟨by decide, by decide⟩, by decide⟩
theorem pn_M_isNew : (parseMethodDescriptor (mY m_M_isNew).desc).map (fun d => d.parameters.length) = some 2 := by decide +kernel
theorem ok_M_weight : mOK m_M_weight := ⟨w_774, w_51, ⟨by decide, by decide⟩, by decide⟩
theorem pn_M_weight : (parseMethodDescriptor (mY m_M_weight).desc).map (fun d => d.parameters.length) = some 1 := by decide +kernel
theorem ok_C_init : mOK m_C_init := ⟨w_93, w_44, ⟨by decide, by decide⟩, by decide⟩
theorem pn_C_init : (parseMethodDescriptor (mY m_C_init).desc).map (fun d => d.parameters.length) = some 1 := by decide +kernel
theorem ok_C_begin : mOK m_C_begin := ⟨w_285, w_44, ⟨by decide, by decide⟩, by decide⟩
theorem pn_C_begin : (parseMethodDescriptor (mY m_C_begin).desc).map (fun d => d.parameters.length) = some 3 := by decide +kernel
theorem ok_C_fillFactors : mOK m_C_fillFactors := ⟨w_289, w_44, ⟨by decide, by decide⟩, by decide⟩
theorem pn_C_fillFactors : (parseMethodDescriptor (mY m_C_fillFactors).desc).map (fun d => d.parameters.length) = some 1 := by decide +kernel
theorem ok_C_fillGenerator : mOK m_C_fillGenerator := ⟨w_301, w_44, ⟨by decide, by decide⟩, by decide⟩
theorem pn_C_fillGenerator : (parseMethodDescriptor (mY m_C_fillGenerator).desc).map (fun d => d.parameters.length) = some 0 := by decide +kernel
theorem ok_C_fillPlainRow : mOK m_C_fillPlainRow := ⟨w_305, w_44, ⟨by decide, by decide⟩, by decide⟩
theorem pn_C_fillPlainRow : (parseMethodDescriptor (mY m_C_fillPlainRow).desc).map (fun d => d.parameters.length) = some 1 := by decide +kernel
theorem ok_C_fillUnitRows : mOK m_C_fillUnitRows := ⟨w_314, w_44, ⟨by decide, by decide⟩, by decide⟩
theorem pn_C_fillUnitRows : (parseMethodDescriptor (mY m_C_fillUnitRows).desc).map (fun d => d.parameters.length) = some 2 := by decide +kernel
theorem ok_C_mixed : mOK m_C_mixed := ⟨w_398, w_44, ⟨by decide, by decide⟩, by decide⟩
theorem pn_C_mixed : (parseMethodDescriptor (mY m_C_mixed).desc).map (fun d => d.parameters.length) = some 3 := by decide +kernel
theorem ok_C_toldBy : mOK m_C_toldBy := ⟨w_474, w_44, ⟨by decide, by decide⟩, by decide⟩
theorem pn_C_toldBy : (parseMethodDescriptor (mY m_C_toldBy).desc).map (fun d => d.parameters.length) = some 2 := by decide +kernel
theorem ok_F_init : mOK m_F_init := ⟨w_64, w_43, ⟨by decide, by decide⟩, by decide⟩
theorem pn_F_init : (parseMethodDescriptor (mY m_F_init).desc).map (fun d => d.parameters.length) = some 0 := by decide +kernel
theorem ok_F_degreeOf : mOK m_F_degreeOf := ⟨w_271, w_43, ⟨by decide, by decide⟩, by decide⟩
theorem pn_F_degreeOf : (parseMethodDescriptor (mY m_F_degreeOf).desc).map (fun d => d.parameters.length) = some 1 := by decide +kernel
theorem ok_F_timesX : mOK m_F_timesX := ⟨w_274, w_43, ⟨by decide, by decide⟩, by decide⟩
theorem pn_F_timesX : (parseMethodDescriptor (mY m_F_timesX).desc).map (fun d => d.parameters.length) = some 2 := by decide +kernel
theorem ok_F_isPrimitive : mOK m_F_isPrimitive := ⟨w_360, w_43, ⟨by decide, by decide⟩, by decide⟩
theorem pn_F_isPrimitive : (parseMethodDescriptor (mY m_F_isPrimitive).desc).map (fun d => d.parameters.length) = some 1 := by decide +kernel
theorem ok_F_begin : mOK m_F_begin := ⟨w_268, w_43, ⟨by decide, by decide⟩, by decide⟩
theorem pn_F_begin : (parseMethodDescriptor (mY m_F_begin).desc).map (fun d => d.parameters.length) = some 1 := by decide +kernel
theorem ok_F_has : mOK m_F_has := ⟨w_368, w_43, ⟨by decide, by decide⟩, by decide⟩
theorem pn_F_has : (parseMethodDescriptor (mY m_F_has).desc).map (fun d => d.parameters.length) = some 1 := by decide +kernel
theorem ok_F_product : mOK m_F_product := ⟨w_293, w_43, ⟨by decide, by decide⟩, by decide⟩
theorem pn_F_product : (parseMethodDescriptor (mY m_F_product).desc).map (fun d => d.parameters.length) = some 2 := by decide +kernel
theorem ok_F_quotient : mOK m_F_quotient := ⟨w_297, w_43, ⟨by decide, by decide⟩, by decide⟩
theorem pn_F_quotient : (parseMethodDescriptor (mY m_F_quotient).desc).map (fun d => d.parameters.length) = some 2 := by decide +kernel
theorem ok_F_addMultiple : mOK m_F_addMultiple := ⟨w_321, w_43, ⟨by decide, by decide⟩, by decide⟩
theorem pn_F_addMultiple : (parseMethodDescriptor (mY m_F_addMultiple).desc).map (fun d => d.parameters.length) = some 5 := by decide +kernel
theorem ok_F_power : mOK m_F_power := ⟨w_309, w_43, ⟨by decide, by decide⟩, by decide⟩
theorem pn_F_power : (parseMethodDescriptor (mY m_F_power).desc).map (fun d => d.parameters.length) = some 2 := by decide +kernel
theorem ok_N_init : mOK m_N_init := ⟨w_200, w_47, ⟨by decide, by decide⟩, by decide⟩
theorem pn_N_init : (parseMethodDescriptor (mY m_N_init).desc).map (fun d => d.parameters.length) = some 2 := by decide +kernel
theorem ok_N_has : mOK m_N_has := ⟨w_505, w_47, ⟨by decide, by decide⟩, by decide⟩
theorem pn_N_has : (parseMethodDescriptor (mY m_N_has).desc).map (fun d => d.parameters.length) = some 1 := by decide +kernel
theorem ok_N_add : mOK m_N_add := ⟨w_457, w_47, ⟨by decide, by decide⟩, by decide⟩
theorem pn_N_add : (parseMethodDescriptor (mY m_N_add).desc).map (fun d => d.parameters.length) = some 2 := by decide +kernel
theorem ok_P_init : mOK m_P_init := ⟨w_224, w_48, ⟨by decide, by decide⟩, by decide⟩
theorem pn_P_init : (parseMethodDescriptor (mY m_P_init).desc).map (fun d => d.parameters.length) = some 3 := by decide +kernel
theorem ok_P_leastWeight : mOK m_P_leastWeight := ⟨w_521, w_48, ⟨by decide, by decide⟩, by decide⟩
theorem pn_P_leastWeight : (parseMethodDescriptor (mY m_P_leastWeight).desc).map (fun d => d.parameters.length) = some 2 := by decide +kernel
theorem ok_P_setPlaces : mOK m_P_setPlaces := ⟨w_525, w_48, ⟨by decide, by decide⟩, by decide⟩
theorem pn_P_setPlaces : (parseMethodDescriptor (mY m_P_setPlaces).desc).map (fun d => d.parameters.length) = some 0 := by decide +kernel
theorem ok_P_setValues : mOK m_P_setValues := ⟨w_531, w_48, ⟨by decide, by decide⟩, by decide⟩
theorem pn_P_setValues : (parseMethodDescriptor (mY m_P_setValues).desc).map (fun d => d.parameters.length) = some 3 := by decide +kernel
theorem ok_P_meet : mOK m_P_meet := ⟨w_536, w_48, ⟨by decide, by decide⟩, by decide⟩
theorem pn_P_meet : (parseMethodDescriptor (mY m_P_meet).desc).map (fun d => d.parameters.length) = some 2 := by decide +kernel
theorem ok_P_failingLeast : mOK m_P_failingLeast := ⟨w_540, w_48, ⟨by decide, by decide⟩, by decide⟩
theorem pn_P_failingLeast : (parseMethodDescriptor (mY m_P_failingLeast).desc).map (fun d => d.parameters.length) = some 1 := by decide +kernel
theorem ok_P_timesLinear : mOK m_P_timesLinear := ⟨w_545, w_48, ⟨by decide, by decide⟩, by decide⟩
theorem pn_P_timesLinear : (parseMethodDescriptor (mY m_P_timesLinear).desc).map (fun d => d.parameters.length) = some 2 := by decide +kernel
theorem ok_S_init : mOK m_S_init := ⟨w_175, w_46, ⟨by decide, by decide⟩, by decide⟩
theorem pn_S_init : (parseMethodDescriptor (mY m_S_init).desc).map (fun d => d.parameters.length) = some 3 := by decide +kernel
theorem ok_S_find : mOK m_S_find := ⟨w_443, w_46, ⟨by decide, by decide⟩, by decide⟩
theorem pn_S_find : (parseMethodDescriptor (mY m_S_find).desc).map (fun d => d.parameters.length) = some 2 := by decide +kernel
theorem ok_S_setStart : mOK m_S_setStart := ⟨w_447, w_46, ⟨by decide, by decide⟩, by decide⟩
theorem pn_S_setStart : (parseMethodDescriptor (mY m_S_setStart).desc).map (fun d => d.parameters.length) = some 2 := by decide +kernel
theorem ok_S_countVotes : mOK m_S_countVotes := ⟨w_451, w_46, ⟨by decide, by decide⟩, by decide⟩
theorem pn_S_countVotes : (parseMethodDescriptor (mY m_S_countVotes).desc).map (fun d => d.parameters.length) = some 1 := by decide +kernel
theorem ok_W_init : mOK m_W_init := ⟨w_150, w_45, ⟨by decide, by decide⟩, by decide⟩
theorem pn_W_init : (parseMethodDescriptor (mY m_W_init).desc).map (fun d => d.parameters.length) = some 0 := by decide +kernel
theorem ok_W_begin : mOK m_W_begin := ⟨w_325, w_45, ⟨by decide, by decide⟩, by decide⟩
theorem pn_W_begin : (parseMethodDescriptor (mY m_W_begin).desc).map (fun d => d.parameters.length) = some 1 := by decide +kernel
theorem ok_W_put : mOK m_W_put := ⟨w_402, w_45, ⟨by decide, by decide⟩, by decide⟩
theorem pn_W_put : (parseMethodDescriptor (mY m_W_put).desc).map (fun d => d.parameters.length) = some 2 := by decide +kernel
theorem ok_W_strike : mOK m_W_strike := ⟨w_418, w_45, ⟨by decide, by decide⟩, by decide⟩
theorem pn_W_strike : (parseMethodDescriptor (mY m_W_strike).desc).map (fun d => d.parameters.length) = some 1 := by decide +kernel
