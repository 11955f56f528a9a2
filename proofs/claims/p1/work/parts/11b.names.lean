set_option maxRecDepth 20000 in
theorem gX8_isCandidate_Jx4a65c_size_8abf5_f30Jx4a65c : GoodIn wsX8_isCandidate (va_wsF RX8 30 RJx4a65c ⟨"java/util/List", "size", "()I"⟩ yJx4a65c_size_8abf5 wsJx4a65c_size_8abf5) := goodIn_app (goodIn_of _ (by decide +kernel)) ggX8_isCandidate_Jx4a65c_size_8abf5
set_option maxRecDepth 20000 in
theorem gX8_isDistrict_Jx4a65c_size_8abf5_f30Jx4a65c : GoodIn wsX8_isDistrict (va_wsF RX8 30 RJx4a65c ⟨"java/util/List", "size", "()I"⟩ yJx4a65c_size_8abf5 wsJx4a65c_size_8abf5) := goodIn_app (goodIn_of _ (by decide +kernel)) ggX8_isDistrict_Jx4a65c_size_8abf5
set_option maxRecDepth 20000 in
theorem gX8_isStack_Jx4a65c_size_8abf5_f30Jx4a65c : GoodIn wsX8_isStack (va_wsF RX8 30 RJx4a65c ⟨"java/util/List", "size", "()I"⟩ yJx4a65c_size_8abf5 wsJx4a65c_size_8abf5) := goodIn_app (goodIn_of _ (by decide +kernel)) ggX8_isStack_Jx4a65c_size_8abf5
set_option maxRecDepth 20000 in
theorem gX8_standing_Jx4a65c_size_8abf5_f30Jx4a65c : GoodIn wsX8_standing (va_wsF RX8 30 RJx4a65c ⟨"java/util/List", "size", "()I"⟩ yJx4a65c_size_8abf5 wsJx4a65c_size_8abf5) := goodIn_app (goodIn_of _ (by decide +kernel)) ggX8_standing_Jx4a65c_size_8abf5
set_option maxRecDepth 20000 in
theorem gX8_candidate_Jx4a65c_size_8abf5_f30Jx4a65c : GoodIn wsX8_candidate (va_wsF RX8 30 RJx4a65c ⟨"java/util/List", "size", "()I"⟩ yJx4a65c_size_8abf5 wsJx4a65c_size_8abf5) := goodIn_app (goodIn_of _ (by decide +kernel)) ggX8_candidate_Jx4a65c_size_8abf5
set_option maxRecDepth 20000 in
theorem gX8_candidate_Jx4a65c_add_9ea2d_f67Jx4a65c : GoodIn wsX8_candidate (va_wsF RX8 67 RJx4a65c ⟨"java/util/List", "add", "(Ljava/lang/Object;)Z"⟩ yJx4a65c_add_9ea2d wsJx4a65c_add_9ea2d) := goodIn_app (goodIn_of _ (by decide +kernel)) ggX8_candidate_Jx4a65c_add_9ea2d
set_option maxRecDepth 20000 in
theorem gX8_district_Jx4a65c_size_8abf5_f30Jx4a65c : GoodIn wsX8_district (va_wsF RX8 30 RJx4a65c ⟨"java/util/List", "size", "()I"⟩ yJx4a65c_size_8abf5 wsJx4a65c_size_8abf5) := goodIn_app (goodIn_of _ (by decide +kernel)) ggX8_district_Jx4a65c_size_8abf5
set_option maxRecDepth 20000 in
theorem gX8_district_Jx4a65c_add_9ea2d_f67Jx4a65c : GoodIn wsX8_district (va_wsF RX8 67 RJx4a65c ⟨"java/util/List", "add", "(Ljava/lang/Object;)Z"⟩ yJx4a65c_add_9ea2d wsJx4a65c_add_9ea2d) := goodIn_app (goodIn_of _ (by decide +kernel)) ggX8_district_Jx4a65c_add_9ea2d
set_option maxRecDepth 20000 in
theorem gX8_cast_Jx4a65c_size_8abf5_f30Jx4a65c : GoodIn wsX8_cast (va_wsF RX8 30 RJx4a65c ⟨"java/util/List", "size", "()I"⟩ yJx4a65c_size_8abf5 wsJx4a65c_size_8abf5) := goodIn_app (goodIn_of _ (by decide +kernel)) ggX8_cast_Jx4a65c_size_8abf5
set_option maxRecDepth 20000 in
theorem gX8_cast_Jx4a65c_add_9ea2d_f67Jx4a65c : GoodIn wsX8_cast (va_wsF RX8 67 RJx4a65c ⟨"java/util/List", "add", "(Ljava/lang/Object;)Z"⟩ yJx4a65c_add_9ea2d wsJx4a65c_add_9ea2d) := goodIn_app (goodIn_of _ (by decide +kernel)) ggX8_cast_Jx4a65c_add_9ea2d
set_option maxRecDepth 20000 in
theorem gX8_recount_Jx4a65c_get_915e3_f89Jx4a65c : GoodIn wsX8_recount (va_wsF RX8 89 RJx4a65c ⟨"java/util/List", "get", "(I)Ljava/lang/Object;"⟩ yJx4a65c_get_915e3 wsJx4a65c_get_915e3) := goodIn_app (goodIn_of _ (by decide +kernel)) ggX8_recount_Jx4a65c_get_915e3
set_option maxRecDepth 20000 in
theorem gX8_move_Jx4a65c_get_915e3_f89Jx4a65c : GoodIn wsX8_move (va_wsF RX8 89 RJx4a65c ⟨"java/util/List", "get", "(I)Ljava/lang/Object;"⟩ yJx4a65c_get_915e3 wsJx4a65c_get_915e3) := goodIn_app (goodIn_of _ (by decide +kernel)) ggX8_move_Jx4a65c_get_915e3
set_option maxRecDepth 20000 in
theorem gX8_votes_Jx4a65c_size_8abf5_f30Jx4a65c : GoodIn wsX8_votes (va_wsF RX8 30 RJx4a65c ⟨"java/util/List", "size", "()I"⟩ yJx4a65c_size_8abf5 wsJx4a65c_size_8abf5) := goodIn_app (goodIn_of _ (by decide +kernel)) ggX8_votes_Jx4a65c_size_8abf5
set_option maxRecDepth 20000 in
theorem gX8_direct_Jx4a65c_size_8abf5_f30Jx4a65c : GoodIn wsX8_direct (va_wsF RX8 30 RJx4a65c ⟨"java/util/List", "size", "()I"⟩ yJx4a65c_size_8abf5 wsJx4a65c_size_8abf5) := goodIn_app (goodIn_of _ (by decide +kernel)) ggX8_direct_Jx4a65c_size_8abf5
set_option maxRecDepth 20000 in
theorem gX8_wasted_Jx4a65c_size_8abf5_f30Jx4a65c : GoodIn wsX8_wasted (va_wsF RX8 30 RJx4a65c ⟨"java/util/List", "size", "()I"⟩ yJx4a65c_size_8abf5 wsJx4a65c_size_8abf5) := goodIn_app (goodIn_of _ (by decide +kernel)) ggX8_wasted_Jx4a65c_size_8abf5
set_option maxRecDepth 20000 in
theorem gX8_partyNow_Jx4a65c_size_8abf5_f30Jx4a65c : GoodIn wsX8_partyNow (va_wsF RX8 30 RJx4a65c ⟨"java/util/List", "size", "()I"⟩ yJx4a65c_size_8abf5 wsJx4a65c_size_8abf5) := goodIn_app (goodIn_of _ (by decide +kernel)) ggX8_partyNow_Jx4a65c_size_8abf5
set_option maxRecDepth 20000 in
theorem gX8_partyNow_Jx4a65c_get_915e3_f89Jx4a65c : GoodIn wsX8_partyNow (va_wsF RX8 89 RJx4a65c ⟨"java/util/List", "get", "(I)Ljava/lang/Object;"⟩ yJx4a65c_get_915e3 wsJx4a65c_get_915e3) := goodIn_app (goodIn_of _ (by decide +kernel)) ggX8_partyNow_Jx4a65c_get_915e3
set_option maxRecDepth 20000 in
theorem gX8_manyNow_Jx4a65c_size_8abf5_f30Jx4a65c : GoodIn wsX8_manyNow (va_wsF RX8 30 RJx4a65c ⟨"java/util/List", "size", "()I"⟩ yJx4a65c_size_8abf5 wsJx4a65c_size_8abf5) := goodIn_app (goodIn_of _ (by decide +kernel)) ggX8_manyNow_Jx4a65c_size_8abf5
set_option maxRecDepth 20000 in
theorem gX8_manyNow_Jx4a65c_get_915e3_f89Jx4a65c : GoodIn wsX8_manyNow (va_wsF RX8 89 RJx4a65c ⟨"java/util/List", "get", "(I)Ljava/lang/Object;"⟩ yJx4a65c_get_915e3 wsJx4a65c_get_915e3) := goodIn_app (goodIn_of _ (by decide +kernel)) ggX8_manyNow_Jx4a65c_get_915e3
set_option maxRecDepth 20000 in
theorem gX8_wouldWin_Jx4a65c_get_915e3_f89Jx4a65c : GoodIn wsX8_wouldWin (va_wsF RX8 89 RJx4a65c ⟨"java/util/List", "get", "(I)Ljava/lang/Object;"⟩ yJx4a65c_get_915e3 wsJx4a65c_get_915e3) := goodIn_app (goodIn_of _ (by decide +kernel)) ggX8_wouldWin_Jx4a65c_get_915e3
set_option maxRecDepth 20000 in
theorem gX8_lie_Jx4a65c_get_915e3_f89Jx4a65c : GoodIn wsX8_lie (va_wsF RX8 89 RJx4a65c ⟨"java/util/List", "get", "(I)Ljava/lang/Object;"⟩ yJx4a65c_get_915e3 wsJx4a65c_get_915e3) := goodIn_app (goodIn_of _ (by decide +kernel)) ggX8_lie_Jx4a65c_get_915e3
set_option maxRecDepth 20000 in
theorem gX8_digest_Jx4a65c_size_8abf5_f30Jx4a65c : GoodIn wsX8_digest (va_wsF RX8 30 RJx4a65c ⟨"java/util/List", "size", "()I"⟩ yJx4a65c_size_8abf5 wsJx4a65c_size_8abf5) := goodIn_app (goodIn_of _ (by decide +kernel)) ggX8_digest_Jx4a65c_size_8abf5
set_option maxRecDepth 20000 in
theorem gX8_digest_Jx4a65c_add_9ea2d_f67Jx4a65c : GoodIn wsX8_digest (va_wsF RX8 67 RJx4a65c ⟨"java/util/List", "add", "(Ljava/lang/Object;)Z"⟩ yJx4a65c_add_9ea2d wsJx4a65c_add_9ea2d) := goodIn_app (goodIn_of _ (by decide +kernel)) ggX8_digest_Jx4a65c_add_9ea2d
set_option maxRecDepth 20000 in
theorem gX8_digest_Jx4a65c_get_915e3_f89Jx4a65c : GoodIn wsX8_digest (va_wsF RX8 89 RJx4a65c ⟨"java/util/List", "get", "(I)Ljava/lang/Object;"⟩ yJx4a65c_get_915e3 wsJx4a65c_get_915e3) := goodIn_app (goodIn_of _ (by decide +kernel)) ggX8_digest_Jx4a65c_get_915e3
